/** The section "Description" from Strokes to Reading, and how long an object is used. */
final class DescriptionBoundaries {
    private DescriptionBoundaries() {
    }

    static void run() {
        manyChanges();
        manyErrors();
        manyWords();
        directionsAndLengths();
        codes();
        turns();
        soundNumbers();
        secondStrokes();
        firstSounds();
        firstVowels();
        mostWords();
        lettersAndFrequencies();
        equalWords();
        writtenSounds();
        strokesOfOutlines();
        joins();
        costs();
        leastCost();
        equalCosts();
        equalCodes();
        briefForms();
        savings();
        gains();
        free();
        proposedWords();
        equalGains();
        lowestStroke();
        passedOver();
        orderOfProposal();
        padLength();
        differences();
        briefCandidate();
        outlineCandidate();
        fits();
        orderOfReadings();
        equalFrequencies();
        emptyPad();
    }

    private static void manyChanges() {
        Document.says(0, "An object is used for at most 512 calls after it has been made",
            "what later calls answer is free");
        ShorthandOutlines x = new ShorthandOutlines();
        int before = 17;
        for (int call = 1; call <= 505; call++) {
            Checks.due("call " + call + ": setVowels", x.setVowels(call & 255), before);
            before = call & 255;
        }
        for (int left = 4; left >= 0; left--) {
            Checks.due("undo()", x.undo(), left);
        }
        Checks.due("call 511: undo()", x.undo(), -5);
        Checks.due("call 512: setVowels(0)", x.setVowels(0), 500 & 255);
    }

    private static void manyErrors() {
        Document.says(0, "An object is used for at most 512 calls after it has been made");
        ShorthandOutlines x = new ShorthandOutlines();
        for (int call = 1; call <= 511; call++) {
            Checks.due("call " + call + ": undo()", x.undo(), -5);
        }
        Checks.due("call 512: errorCount(-5)", x.errorCount(-5), 511);
    }

    private static void manyWords() {
        Document.says(0, "An object is used for at most 512 calls after it has been made");
        ShorthandOutlines x = Checks.fullOf("abcdefgh");
        for (int call = 22; call <= 510; call += 2) {
            Checks.due("call " + call + ": removeWord", x.removeWord(call % 12), 11);
            Checks.due("call " + (call + 1) + ": addWord", x.addWord(1 + call), 11);
        }
        Checks.due("call 512: frequency(11)", x.frequency(11), 511);
    }

    private static void directionsAndLengths() {
        Document.says(0, "A stroke has a direction, 0 to 7 (in steps of 45 degrees), and a length, 1 to 3");
        ShorthandOutlines x = Checks.having("a", "h");
        for (int direction = 0; direction < 8; direction++) {
            int shortest = 3 * direction;
            int longest = shortest + 2;
            Checks.due("one direction, lengths 1 and 3", x.joinCost(shortest, longest), 0);
            if (direction < 7) {
                Checks.due("the next direction", x.joinCost(longest, longest + 1), 1);
            }
        }
        Checks.pad(x, 2);
        Checks.due("lengths 1 and 3: doubt(0)", x.doubt(0), 2);
        Checks.pad(x, 23);
        Checks.due("the longest of the last direction: doubt(0)", x.doubt(0), 2);
        Checks.due("reading(0)", x.reading(0), 1);
    }

    private static void codes() {
        Document.says(0, "Its code is 3 * direction + length - 1, a number from 0 to 23");
        ShorthandOutlines x = Checks.having("bc");
        for (int code : new int[] {0, 23}) {
            Checks.due("joinCost", x.joinCost(code, code), 3);
            Checks.holds("a first stroke", x.setSound(0, code, -1) >= 0);
            Checks.due("a second stroke", x.setSound(0, 5, code), code);
            Checks.holds("a brief form", x.setBrief(0, code) >= -1);
            Checks.due("brief(0)", x.brief(0), code);
            Checks.holds("on the pad", x.write(code) >= 1);
        }
        for (int code : Checks.NO_STROKES) {
            Checks.refused(x, "joinCost(0, " + code + ")", () -> x.joinCost(0, code), -2);
            Checks.refused(x, "setSound(0, " + code + ", -1)", () -> x.setSound(0, code, -1), -2);
            Checks.refused(x, "setBrief(0, " + code + ")", () -> x.setBrief(0, code), -2);
            Checks.refused(x, "write(" + code + ")", () -> x.write(code), -2);
        }
    }

    private static void turns() {
        Document.says(0, "The turn between two directions is the least number of steps");
        ShorthandOutlines x = new ShorthandOutlines();
        int[] turns = {0, 1, 2, 3, 4, 3, 2, 1};
        for (int from = 0; from < 8; from++) {
            for (int steps = 0; steps < 8; steps++) {
                int to = (from + steps) % 8;
                Checks.due("from " + from + " to " + to, x.joinCost(3 * from, 3 * to + 1), turns[steps]);
            }
        }
        Checks.due("over the end of the circle", x.joinCost(23, 0), 1);
        Checks.due("and back", x.joinCost(0, 23), 1);
    }

    private static void soundNumbers() {
        Document.says(0, "There are 8 sounds, written with the letters a to h and numbered 0 to 7");
        ShorthandOutlines x = Checks.having("a", "h");
        Checks.due("setSound(0, 5, -1)", x.setSound(0, 5, -1), 0);
        Checks.due("the letter a", x.stroke(0, 0), 5);
        Checks.due("setSound(7, 8, -1)", x.setSound(7, 8, -1), 21);
        Checks.due("the letter h", x.stroke(1, 0), 8);
        Checks.refused(x, "setSound(-1, 5, -1)", () -> x.setSound(-1, 5, -1), -2);
        Checks.refused(x, "setSound(8, 5, -1)", () -> x.setSound(8, 5, -1), -2);
        for (char c : new char[] {'a' - 1, 'h' + 1}) {
            Checks.type(x, "" + c);
            Checks.refused(x, "addWord of " + c, () -> x.addWord(1), -3);
        }
    }

    private static void secondStrokes() {
        Document.says(0, "Each sound has a first stroke and may have a second stroke");
        for (int sound = 0; sound < 8; sound++) {
            ShorthandOutlines x = Checks.having("" + (char) ('a' + sound));
            Checks.due("without: outlines(0)", x.outlines(0), 1);
            x.setSound(sound, 1, 0);
            Checks.due("the stroke 0 is a second stroke: outlines(0)", x.outlines(0), 2);
            x.setSound(sound, 1, -1);
            Checks.due("taken away: outlines(0)", x.outlines(0), 1);
        }
    }

    private static void firstSounds() {
        Document.says(0, "Initially the first stroke of sound s has the code 3 * s, and no sound has a second stroke");
        ShorthandOutlines x = Checks.having("abcdefgh");
        x.setVowels(0);
        Checks.due("outlines(0)", x.outlines(0), 1);
        for (int sound = 0; sound < 8; sound++) {
            Checks.due("stroke(0, " + sound + ")", x.stroke(0, sound), 3 * sound);
        }
    }

    private static void firstVowels() {
        Document.says(0, "initially a and e are vowels, and the other sounds are consonants",
            "Each sound is a vowel or a consonant");
        for (char c = 'a'; c <= 'h'; c++) {
            ShorthandOutlines x = Checks.having("b" + c);
            Checks.due("strokes of b" + c, x.strokes(0), c == 'a' || c == 'e' ? 1 : 2);
        }
    }

    private static void mostWords() {
        Document.says(0, "The dictionary has at most 12 words, numbered from 0 in the order in which they were added");
        ShorthandOutlines x = new ShorthandOutlines();
        Checks.type(x, "a");
        for (int word = 0; word < 12; word++) {
            Checks.due("addWord", x.addWord(100 + word), word);
        }
        Checks.refused(x, "a 13th word", () -> x.addWord(1), -4);
        for (int word = 0; word < 12; word++) {
            Checks.due("frequency(" + word + ")", x.frequency(word), 100 + word);
        }
        Checks.refused(x, "frequency(12)", () -> x.frequency(12), -2);
    }

    private static void lettersAndFrequencies() {
        Document.says(0, "A word has 1 to 8 letters from a to h and a frequency, 1 to 999");
        ShorthandOutlines x = new ShorthandOutlines();
        Checks.refused(x, "addWord of no letters", () -> x.addWord(1), -3);
        Checks.due("one letter, the least frequency", Checks.add(x, "a", 1), 0);
        Checks.due("eight letters, the greatest frequency", Checks.add(x, "hhhhhhha", 999), 1);
        Checks.refused(x, "a ninth letter", () -> x.append('a'), -4);
        Checks.refused(x, "addWord(0)", () -> x.addWord(0), -2);
        Checks.refused(x, "addWord(1000)", () -> x.addWord(1000), -2);
        Checks.due("letters(0)", x.letters(0), 1);
        Checks.due("letters(1)", x.letters(1), 8);
    }

    private static void equalWords() {
        Document.says(0, "Equal words may occur several times");
        ShorthandOutlines x = Checks.fullOf("bc");
        Checks.due("words()", x.words(), 12);
        Checks.pad(x, 3, 6);
        Checks.due("all of them are read: reading(-1)", x.reading(-1), 12);
        Checks.due("removeWord(5) takes one", x.removeWord(5), 11);
    }

    private static void writtenSounds() {
        Document.says(0, "The written sounds of a word are its first sound, whether it is a vowel or not");
        ShorthandOutlines x = Checks.having("a", "aaaaaaaa", "eb", "be", "bbbbbbbb", "aeaeaeab");
        int[] written = {1, 1, 2, 1, 8, 2};
        for (int word = 0; word < written.length; word++) {
            Checks.due("strokes(" + word + ")", x.strokes(word), written[word]);
        }
        Checks.due("a first vowel: stroke(2, 0)", x.stroke(2, 0), 12);
        Checks.due("the last letter: stroke(5, 1)", x.stroke(5, 1), 3);
        x.setVowels(255);
        Checks.due("vowels alone: strokes(4)", x.strokes(4), 1);
        x.setVowels(0);
        Checks.due("consonants alone: strokes(1)", x.strokes(1), 8);
    }

    private static void strokesOfOutlines() {
        Document.says(0, "An outline of a word is a sequence of strokes, one for each written sound");
        ShorthandOutlines x = Checks.having("b", "bcdfghbh");
        Checks.due("the shortest: strokes(0)", x.strokes(0), 1);
        Checks.due("the longest: strokes(1)", x.strokes(1), 8);
        int[] codes = {3, 6, 9, 15, 18, 21, 3, 21};
        for (int i = 0; i < 8; i++) {
            Checks.due("stroke(1, " + i + ")", x.stroke(1, i), codes[i]);
        }
        x.setSound(7, 21, 5);
        Checks.due("the second stroke at the end: stroke(1, 7)", x.stroke(1, 7), 5);
        x.setSound(7, 21, 0);
        x.setSound(1, 12, 7);
        Checks.due("the second stroke in front: stroke(1, 0)", x.stroke(1, 0), 7);
        Checks.due("alone it is the first: stroke(0, 0)", x.stroke(0, 0), 12);
        x.setSound(1, 2, -1);
        Checks.due("the stroke 0 as a second stroke: stroke(1, 7)", x.stroke(1, 7), 0);
    }

    private static void joins() {
        Document.says(0, "plus 3 if they are the same stroke (equal codes)");
        ShorthandOutlines x = new ShorthandOutlines();
        for (int code = 0; code < 24; code++) {
            Checks.due("joinCost(" + code + ", " + code + ")", x.joinCost(code, code), 3);
            int otherLength = code / 3 * 3 + (code + 1) % 3;
            Checks.due("joinCost(" + code + ", " + otherLength + ")", x.joinCost(code, otherLength), 0);
        }
        Checks.due("the dearest", x.joinCost(0, 12), 4);
    }

    private static void costs() {
        Document.says(0, "The cost of an outline is the sum of the costs of its joins");
        ShorthandOutlines x = Checks.having("b", "bb", "hhhhhhhh", "aeaeaeae");
        Checks.due("no join: cost(0)", x.cost(0), 0);
        Checks.due("one join: cost(1)", x.cost(1), 3);
        Checks.due("seven joins: cost(2)", x.cost(2), 21);
        x.setVowels(0);
        Checks.due("seven dearest joins: cost(3)", x.cost(3), 28);
    }

    private static void leastCost() {
        Document.says(0, "The written outline of a word is the outline with the least cost");
        ShorthandOutlines x = Checks.having("bbbbbbbb", "bcd");
        x.setSound(1, 3, 15);
        // Equal strokes cost 3 and the opposite ones 4.
        Checks.due("of 256 outlines the one with equal strokes: cost(0)", x.cost(0), 21);
        x.setSound(1, 3, 5);
        Checks.due("and with strokes of two lengths: cost(0)", x.cost(0), 0);
        x.setSound(1, 0, -1);
        x.setSound(3, 17, -1);
        x.setSound(2, 4, 18);
        // 1 + 4 against 2 + 1.
        Checks.due("the whole counts, not the first join: stroke(1, 1)", x.stroke(1, 1), 18);
        Checks.due("cost(1)", x.cost(1), 3);
    }

    private static void equalCosts() {
        Document.says(0, "of several with the least cost, the one in which at the first position where they differ");
        ShorthandOutlines x = Checks.having("b", "bc", "cb", "bcd");
        x.setSound(1, 6, 0);
        x.setSound(2, 3, -1);
        Checks.due("one stroke", x.stroke(0, 0), 6);
        Checks.due("the first position", x.stroke(1, 0), 6);
        Checks.due("the last position", x.stroke(2, 1), 6);
        x.setSound(1, 0, 12);
        x.setSound(2, 13, 1);
        x.setSound(3, 14, 2);
        // 0 1 2 and 12 13 14 cost nothing; the second has more first strokes, the first is chosen.
        Checks.due("stroke(3, 0)", x.stroke(3, 0), 0);
        Checks.due("stroke(3, 1)", x.stroke(3, 1), 1);
        Checks.due("stroke(3, 2)", x.stroke(3, 2), 2);
    }

    private static void equalCodes() {
        Document.says(0, "(If the first and the second stroke of a sound have the same code");
        ShorthandOutlines x = Checks.having("b", "bb", "bbbbbbbb");
        x.setSound(1, 4, 4);
        Checks.due("outlines(0)", x.outlines(0), 2);
        Checks.due("outlines(1)", x.outlines(1), 4);
        Checks.due("outlines(2)", x.outlines(2), 256);
        Checks.due("stroke(0, 0)", x.stroke(0, 0), 4);
        Checks.due("both choices are the same stroke: cost(1)", x.cost(1), 3);
        Checks.due("cost(2)", x.cost(2), 21);
    }

    private static void briefForms() {
        Document.says(0, "A word may have a brief form, which is a single stroke");
        ShorthandOutlines x = Checks.having("bcdfghbc");
        Checks.due("none at first: brief(0)", x.brief(0), -1);
        x.setBrief(0, 0);
        Checks.due("the stroke 0: brief(0)", x.brief(0), 0);
        Checks.due("the outline stays: strokes(0)", x.strokes(0), 8);
        Checks.pad(x, 0);
        Checks.due("one stroke is read: reading(0)", x.reading(0), 0);
    }

    private static void savings() {
        Document.says(0, "The saving of a word is the number of strokes of its written outline minus 1");
        ShorthandOutlines x = Checks.having("aaaaaaaa", "bc", "bcdfghbc");
        Checks.due("no saving: gain(0)", x.gain(0), 0);
        Checks.due("a saving of 1: gain(1)", x.gain(1), 1);
        Checks.due("the greatest saving: gain(2)", x.gain(2), 7);
    }

    private static void gains() {
        Document.says(0, "the gain of a word is its frequency times its saving");
        ShorthandOutlines x = new ShorthandOutlines();
        Checks.add(x, "b", 999);
        Checks.add(x, "bcdfghbc", 999);
        Checks.add(x, "bc", 1);
        Checks.due("gain(0)", x.gain(0), 0);
        Checks.due("the greatest: gain(1)", x.gain(1), 6993);
        Checks.due("the least above 0: gain(2)", x.gain(2), 1);
    }

    private static void free() {
        Document.says(0, "A stroke is free for word w if no other word has it as its brief form");
        ShorthandOutlines x = Checks.having("bc", "d", "fg");
        x.setBrief(0, 20);
        Checks.due("its own brief form: setBrief(0, 20)", x.setBrief(0, 20), 20);
        Checks.refused(x, "another's brief form", () -> x.setBrief(2, 20), -3);
        Checks.refused(x, "another's lone stroke", () -> x.setBrief(2, 9), -3);
        Checks.due("a part of a longer outline", x.setBrief(2, 3), -1);
        Checks.due("its own lone stroke", x.setBrief(1, 9), -1);
        x.setBrief(1, 0);
        Checks.due("the lone stroke of a word with a brief form", x.setBrief(2, 9), 3);
    }

    private static void proposedWords() {
        Document.says(0, "The proposal looks at the words without a brief form and with a gain of at least 1");
        ShorthandOutlines x = new ShorthandOutlines();
        Checks.add(x, "b", 999);
        Checks.due("a gain of 0: proposedWord(-1)", x.proposedWord(-1), 0);
        Checks.add(x, "bc", 1);
        Checks.due("a gain of 1: proposedWord(-1)", x.proposedWord(-1), 1);
        Checks.due("proposedWord(0)", x.proposedWord(0), 1);
        x.setBrief(1, 0);
        Checks.due("with a brief form: proposedWord(-1)", x.proposedWord(-1), 0);
    }

    private static void equalGains() {
        Document.says(0, "in the order of descending gains (equal gains: ascending numbers)");
        ShorthandOutlines x = new ShorthandOutlines();
        Checks.add(x, "bc", 5);
        Checks.add(x, "bc", 6);
        Checks.add(x, "bcd", 3);
        Checks.add(x, "bcdf", 2);
        Checks.add(x, "bc", 7);
        int[] order = {4, 1, 2, 3, 0};
        for (int i = 0; i < order.length; i++) {
            Checks.due("proposedWord(" + i + ")", x.proposedWord(i), order[i]);
        }
        Checks.due("words of one gain and one kind", Checks.fullOf("bc").proposedWord(11), 11);
    }

    private static void lowestStroke() {
        Document.says(0, "it takes the lowest stroke that is free for the word (with the brief forms that exist)");
        ShorthandOutlines x = Checks.fullOf("bc");
        Checks.due("proposedStroke(0)", x.proposedStroke(0), 0);
        Checks.due("each stroke is taken once: proposedStroke(11)", x.proposedStroke(11), 11);
        for (int word = 1; word < 12; word++) {
            x.setBrief(word, word - 1);
        }
        Checks.due("behind eleven brief forms", x.proposedStroke(0), 11);
        x.setBrief(6, 23);
        Checks.due("in the gap", x.proposedStroke(0), 5);
        ShorthandOutlines y = Checks.having("a", "bc");
        Checks.due("behind a lone stroke", y.proposedStroke(0), 1);
        y.setBrief(0, 1);
        Checks.due("the lone stroke of a word with a brief form", y.proposedStroke(0), 0);
    }

    // Twelve words keep and take at most 12 of the 24 strokes, so that no word can be passed over.
    private static void passedOver() {
        Document.says(0, "if there is none, the word is passed over");
        ShorthandOutlines x = new ShorthandOutlines();
        for (char c = 'a'; c <= 'd'; c++) {
            Checks.add(x, "" + c, 1);
        }
        Checks.type(x, "bc");
        for (int word = 4; word < 12; word++) {
            x.addWord(1);
        }
        int[] strokes = {1, 2, 4, 5, 7, 8, 10, 11};
        Checks.due("proposedWord(-1)", x.proposedWord(-1), 8);
        for (int i = 0; i < 8; i++) {
            Checks.due("proposedStroke(" + i + ")", x.proposedStroke(i), strokes[i]);
        }
        Checks.due("proposedStroke(8)", x.proposedStroke(8), -1);
    }

    private static void orderOfProposal() {
        Document.says(0, "The proposal consists of the words that got a stroke, in this order");
        ShorthandOutlines x = new ShorthandOutlines();
        Checks.due("of no words", x.proposedWord(-1), 0);
        Checks.type(x, "bc");
        for (int word = 0; word < 12; word++) {
            x.addWord(word + 1);
        }
        for (int i = 0; i < 12; i++) {
            Checks.due("proposedWord(" + i + ")", x.proposedWord(i), 11 - i);
            Checks.due("proposedStroke(" + i + ")", x.proposedStroke(i), i);
        }
    }

    private static void padLength() {
        Document.says(0, "The pad holds an outline to be read: a sequence of at most 8 strokes");
        ShorthandOutlines x = Checks.having("bcdfghbc");
        int[] strokes = {3, 6, 9, 15, 18, 21, 3, 6};
        for (int i = 0; i < 8; i++) {
            Checks.due("write", x.write(strokes[i]), i + 1);
        }
        Checks.due("all eight are read: doubt(0)", x.doubt(0), 0);
        Checks.refused(x, "a ninth stroke", () -> x.write(0), -4);
        Checks.due("doubt(0)", x.doubt(0), 0);
    }

    private static void differences() {
        Document.says(0, "The difference of two strokes is the turn between their directions plus");
        ShorthandOutlines x = Checks.having("a");
        int[][] rows = {{0, 0}, {1, 1}, {2, 2}, {3, 1}, {5, 3}, {8, -1}, {9, 3}, {12, -1}, {14, -1}, {15, 3},
            {18, 2}, {19, 3}, {21, 1}, {22, 2}, {23, 3}};
        for (int[] row : rows) {
            Checks.pad(x, row[0]);
            Checks.due("doubt of " + row[0] + " for 0", x.doubt(0), row[1]);
        }
        x.setSound(0, 23, -1);
        Checks.pad(x, 0);
        Checks.due("doubt of 0 for 23", x.doubt(0), 3);
        Checks.pad(x, 21);
        Checks.due("doubt of 21 for 23", x.doubt(0), 2);
    }

    private static void briefCandidate() {
        Document.says(0, "If the word has a brief form and the pad has exactly one stroke",
            "A word fits the pad with a doubt as follows");
        ShorthandOutlines x = Checks.having("bc");
        x.setBrief(0, 18);
        Checks.due("no stroke: reading(-1)", x.reading(-1), 0);
        Checks.pad(x, 18);
        Checks.due("one stroke: doubt(0)", x.doubt(0), 0);
        Checks.pad(x, 18, 18);
        Checks.due("two strokes: reading(-1)", x.reading(-1), 0);
        Checks.pad(x, 3, 6);
        Checks.due("the outline: reading(-1)", x.reading(-1), 0);
        Checks.pad(x, 21);
        Checks.due("doubt(0)", x.doubt(0), 1);
        Checks.pad(x, 9);
        Checks.due("a difference of 3: doubt(0)", x.doubt(0), 3);
        Checks.pad(x, 10);
        Checks.due("a difference of 4: reading(-1)", x.reading(-1), 0);
    }

    private static void outlineCandidate() {
        Document.says(0, "If the word has no brief form and its number of written sounds is the number of strokes");
        ShorthandOutlines x = Checks.having("bacd");
        Checks.pad(x, 3, 6);
        Checks.due("a stroke less: reading(-1)", x.reading(-1), 0);
        x.write(9);
        Checks.due("as many: doubt(0)", x.doubt(0), 0);
        x.write(9);
        Checks.due("a stroke more: reading(-1)", x.reading(-1), 0);
        x.setSound(3, 9, 21);
        Checks.pad(x, 3, 6, 20);
        Checks.due("near the second stroke: doubt(0)", x.doubt(0), 3);
        Checks.pad(x, 3, 6, 15);
        Checks.due("as near to both: doubt(0)", x.doubt(0), 2);
        Checks.pad(x, 3, 6, 10);
        Checks.due("near the first stroke: doubt(0)", x.doubt(0), 1);
    }

    private static void fits() {
        Document.says(0, "the word fits if there is a candidate that is at most 3", "The doubt is the candidate");
        ShorthandOutlines x = Checks.having("bcdf");
        Checks.pad(x, 4, 7, 10, 15);
        Checks.due("1 + 1 + 1 + 0: doubt(0)", x.doubt(0), 3);
        Checks.pad(x, 4, 7, 10, 16);
        Checks.due("1 + 1 + 1 + 1: doubt(0)", x.doubt(0), -1);
        Checks.due("reading(-1)", x.reading(-1), 0);
    }

    private static void orderOfReadings() {
        Document.says(0, "in the order of ascending doubts (equal doubts: descending frequencies");
        ShorthandOutlines x = new ShorthandOutlines();
        Checks.add(x, "d", 999);
        Checks.add(x, "c", 998);
        Checks.add(x, "c", 999);
        Checks.add(x, "a", 1);
        Checks.pad(x, 0);
        int[] order = {3, 2, 1, 0};
        int[] doubts = {0, 2, 2, 3};
        for (int i = 0; i < 4; i++) {
            Checks.due("reading(" + i + ")", x.reading(i), order[i]);
            Checks.due("doubt(" + i + ")", x.doubt(i), doubts[i]);
        }
        ShorthandOutlines y = new ShorthandOutlines();
        Checks.add(y, "c", 999);
        Checks.add(y, "b", 1);
        Checks.pad(y, 3);
        Checks.due("the least step of doubt against the greatest of frequency", y.reading(0), 1);
    }

    private static void equalFrequencies() {
        Document.says(0, "equal frequencies too: ascending numbers)");
        ShorthandOutlines x = Checks.fullOf("b");
        Checks.pad(x, 3);
        for (int i = 0; i < 12; i++) {
            Checks.due("reading(" + i + ")", x.reading(i), i);
        }
    }

    private static void emptyPad() {
        Document.says(0, "The empty pad has no readings");
        ShorthandOutlines x = Checks.having("a", "bc");
        x.setBrief(1, 9);
        Checks.quiet(x, "reading(-1)", () -> x.reading(-1), 0);
        Checks.quiet(x, "reading(0)", () -> x.reading(0), -1);
        Checks.quiet(x, "doubt(0)", () -> x.doubt(0), -1);
        x.write(0);
        Checks.due("with a stroke: reading(-1)", x.reading(-1), 2);
        x.clearPad();
        Checks.due("emptied again: reading(-1)", x.reading(-1), 0);
    }
}
