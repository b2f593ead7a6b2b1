/** Promises 11 to 15: written outlines and joins. */
final class OutlineBoundaries {
    private OutlineBoundaries() {
    }

    static void run() {
        countsStrokes();
        noWordForStrokes();
        tellsStroke();
        indexOfStroke();
        noWordForStroke();
        tellsCost();
        noWordForCost();
        countsOutlines();
        noWordForOutlines();
        tellsJoinCost();
        noCodes();
    }

    private static void countsStrokes() {
        Document.says(11, "Returns the number of strokes, at least 1",
            "Returns the number of strokes of the written outline of a word", "`word`: number of a word");
        ShorthandOutlines x = Checks.having("a", "eeeeeeee", "bcdfghbc", "abcdefgh");
        int[] counts = {1, 1, 8, 7};
        for (int word = 0; word < 4; word++) {
            int asked = word;
            Checks.quiet(x, "strokes(" + word + ")", () -> x.strokes(asked), counts[word]);
        }
        x.setVowels(255);
        for (int word = 0; word < 4; word++) {
            Checks.due("vowels alone: strokes(" + word + ")", x.strokes(word), 1);
        }
        x.setVowels(0);
        for (int word = 0; word < 4; word++) {
            Checks.due("consonants alone: strokes(" + word + ")", x.strokes(word), word == 0 ? 1 : 8);
        }
    }

    private static void noWordForStrokes() {
        Document.says(11, "OUT_OF_RANGE if there is no such word");
        ShorthandOutlines x = new ShorthandOutlines();
        Checks.refused(x, "without words: strokes(0)", () -> x.strokes(0), -2);
        Checks.add(x, "bc", 1);
        for (int word : Checks.noWords(x)) {
            Checks.refused(x, "strokes(" + word + ")", () -> x.strokes(word), -2);
        }
    }

    private static void tellsStroke() {
        Document.says(12, "Returns a stroke of the written outline of a word", "Returns the code of the stroke",
            "`word`: number of a word");
        ShorthandOutlines x = Checks.having("a", "hbadeg");
        x.setSound(7, 23, -1);
        Checks.quiet(x, "the least code: stroke(0, 0)", () -> x.stroke(0, 0), 0);
        Checks.quiet(x, "the greatest code: stroke(1, 0)", () -> x.stroke(1, 0), 23);
        Checks.due("behind a vowel: stroke(1, 2)", x.stroke(1, 2), 9);
        x.setBrief(1, 5);
        Checks.due("with a brief form too: stroke(1, 0)", x.stroke(1, 0), 23);
    }

    private static void indexOfStroke() {
        Document.says(12, "`index`: index of the stroke, from 0");
        ShorthandOutlines x = Checks.having("b", "bae", "bcdfghbc");
        Checks.due("stroke(0, 0)", x.stroke(0, 0), 3);
        Checks.refused(x, "one stroke: stroke(0, 1)", () -> x.stroke(0, 1), -2);
        Checks.refused(x, "three letters, one stroke: stroke(1, 1)", () -> x.stroke(1, 1), -2);
        Checks.due("eight strokes: stroke(2, 7)", x.stroke(2, 7), 6);
        for (int index : new int[] {-1, 8, Integer.MIN_VALUE, Integer.MAX_VALUE}) {
            Checks.refused(x, "stroke(2, " + index + ")", () -> x.stroke(2, index), -2);
        }
    }

    private static void noWordForStroke() {
        Document.says(12, "OUT_OF_RANGE if there is no such word or stroke");
        ShorthandOutlines x = new ShorthandOutlines();
        Checks.refused(x, "without words: stroke(0, 0)", () -> x.stroke(0, 0), -2);
        Checks.add(x, "bc", 1);
        for (int word : Checks.noWords(x)) {
            Checks.refused(x, "stroke(" + word + ", 0)", () -> x.stroke(word, 0), -2);
            Checks.refused(x, "neither: stroke(" + word + ", 2)", () -> x.stroke(word, 2), -2);
        }
    }

    private static void tellsCost() {
        Document.says(13, "Returns the cost of the written outline of a word", "Returns the cost",
            "`word`: number of a word");
        ShorthandOutlines x = Checks.having("a", "hb", "hh", "aeaeaeae");
        Checks.quiet(x, "no join: cost(0)", () -> x.cost(0), 0);
        Checks.quiet(x, "over the end of the circle: cost(1)", () -> x.cost(1), 2);
        Checks.quiet(x, "the same stroke: cost(2)", () -> x.cost(2), 3);
        x.setVowels(0);
        Checks.quiet(x, "the greatest: cost(3)", () -> x.cost(3), 28);
        x.setSound(0, 0, 13);
        Checks.due("with second strokes: cost(3)", x.cost(3), 0);
    }

    private static void noWordForCost() {
        Document.says(13, "OUT_OF_RANGE if there is no such word");
        ShorthandOutlines x = new ShorthandOutlines();
        Checks.refused(x, "without words: cost(0)", () -> x.cost(0), -2);
        Checks.add(x, "bc", 1);
        for (int word : Checks.noWords(x)) {
            Checks.refused(x, "cost(" + word + ")", () -> x.cost(word), -2);
        }
    }

    private static void countsOutlines() {
        Document.says(14, "Counts the outlines of a word: the sequences of choices between first and second strokes",
            "Returns the number of outlines", "`word`: number of a word");
        ShorthandOutlines x = Checks.having("b", "bbbbbbbb", "babababa", "cbcbcbcb");
        for (int word = 0; word < 4; word++) {
            int asked = word;
            Checks.quiet(x, "without second strokes: outlines(" + word + ")", () -> x.outlines(asked), 1);
        }
        x.setSound(1, 3, 0);
        Checks.due("outlines(0)", x.outlines(0), 2);
        Checks.due("the most: outlines(1)", x.outlines(1), 256);
        Checks.due("outlines(2)", x.outlines(2), 16);
        Checks.due("outlines(3)", x.outlines(3), 16);
        x.setSound(0, 1, 1);
        Checks.due("of vowels that are not written: outlines(2)", x.outlines(2), 16);
        x.setVowels(0);
        Checks.due("that are written: outlines(2)", x.outlines(2), 256);
    }

    private static void noWordForOutlines() {
        Document.says(14, "OUT_OF_RANGE if there is no such word");
        ShorthandOutlines x = new ShorthandOutlines();
        Checks.refused(x, "without words: outlines(0)", () -> x.outlines(0), -2);
        Checks.add(x, "bc", 1);
        for (int word : Checks.noWords(x)) {
            Checks.refused(x, "outlines(" + word + ")", () -> x.outlines(word), -2);
        }
    }

    private static void tellsJoinCost() {
        Document.says(15, "Returns the cost of a join", "Returns the cost", "`a`: code of a stroke",
            "`b`: code of the stroke that follows it");
        ShorthandOutlines x = new ShorthandOutlines();
        int[][] rows = {{0, 0, 3}, {23, 23, 3}, {0, 1, 0}, {0, 2, 0}, {21, 23, 0}, {2, 3, 1}, {3, 2, 1}, {0, 21, 1},
            {23, 0, 1}, {0, 12, 4}, {14, 0, 4}, {0, 15, 3}, {9, 0, 3}, {11, 23, 4}, {3, 18, 3}};
        for (int[] row : rows) {
            Checks.quiet(x, "joinCost(" + row[0] + ", " + row[1] + ")", () -> x.joinCost(row[0], row[1]), row[2]);
        }
    }

    private static void noCodes() {
        Document.says(15, "OUT_OF_RANGE if an argument is not a code");
        ShorthandOutlines x = new ShorthandOutlines();
        for (int code : Checks.NO_STROKES) {
            Checks.refused(x, "joinCost(" + code + ", 0)", () -> x.joinCost(code, 0), -2);
            Checks.refused(x, "joinCost(23, " + code + ")", () -> x.joinCost(23, code), -2);
            Checks.refused(x, "joinCost(" + code + ", " + code + ")", () -> x.joinCost(code, code), -2);
        }
    }
}
