/** Promises 23 to 26: the pad and its readings. */
final class ReadingBoundaries {
    private ReadingBoundaries() {
    }

    static void run() {
        writes();
        noCodeToWrite();
        fullPad();
        emptiesPad();
        tellsReading();
        mostReadings();
        readingsTooFew();
        readingOut();
        tellsDoubt();
        doubtOfFullPad();
        doubtOut();
    }

    private static void writes() {
        Document.says(23, "Writes a stroke at the end of the pad", "Returns the number of strokes on the pad",
            "`stroke`: code of a stroke");
        ShorthandOutlines x = Checks.having("ah");
        x.setSound(7, 23, -1);
        Checks.due("the least code: write(0)", x.write(0), 1);
        Checks.due("the greatest code: write(23)", x.write(23), 2);
        Checks.due("in this order: doubt(0)", x.doubt(0), 0);
        for (int length = 3; length <= 8; length++) {
            Checks.due("write(0)", x.write(0), length);
        }
        Checks.due("it saves nothing: undo()", x.undo(), 1);
    }

    private static void noCodeToWrite() {
        Document.says(23, "OUT_OF_RANGE if stroke is not a code");
        ShorthandOutlines x = new ShorthandOutlines();
        for (int stroke : Checks.NO_STROKES) {
            Checks.refused(x, "write(" + stroke + ")", () -> x.write(stroke), -2);
        }
        Checks.due("clearPad()", x.clearPad(), 0);
    }

    private static void fullPad() {
        Document.says(23, "FULL if the pad has 8 strokes");
        ShorthandOutlines x = new ShorthandOutlines();
        Checks.pad(x, 0, 1, 2, 3, 4, 5, 6);
        Checks.due("with 7 strokes: write(7)", x.write(7), 8);
        Checks.refused(x, "with 8 strokes: write(8)", () -> x.write(8), -4);
        Checks.refused(x, "with 8 strokes: write(23)", () -> x.write(23), -4);
        Checks.due("clearPad()", x.clearPad(), 8);
        Checks.due("room again: write(8)", x.write(8), 1);
    }

    private static void emptiesPad() {
        Document.says(24, "Empties the pad", "Returns the number of strokes that it had");
        ShorthandOutlines x = Checks.having("b");
        Checks.quiet(x, "of an empty pad: clearPad()", x::clearPad, 0);
        Checks.pad(x, 0, 1, 2, 3, 4, 5, 6, 7);
        Checks.due("of a full pad: clearPad()", x.clearPad(), 8);
        Checks.due("clearPad()", x.clearPad(), 0);
        Checks.due("no readings: reading(-1)", x.reading(-1), 0);
        x.write(3);
        Checks.due("nothing of the old strokes: doubt(0)", x.doubt(0), 0);
        Checks.due("clearPad()", x.clearPad(), 1);
    }

    private static void tellsReading() {
        Document.says(25, "Returns the number of the word, or the number of readings if index is -1",
            "Returns a reading of the pad", "`index`: index in the readings, from 0, or -1 for the number of readings");
        ShorthandOutlines x = new ShorthandOutlines();
        Checks.quiet(x, "without words: reading(-1)", () -> x.reading(-1), 0);
        x.write(3);
        Checks.quiet(x, "with a stroke: reading(-1)", () -> x.reading(-1), 0);
        Checks.add(x, "c", 1);
        Checks.add(x, "b", 1);
        Checks.add(x, "g", 1);
        Checks.quiet(x, "reading(-1)", () -> x.reading(-1), 3);
        Checks.quiet(x, "the first: reading(0)", () -> x.reading(0), 1);
        Checks.quiet(x, "the last: reading(2)", () -> x.reading(2), 2);
        x.setSound(6, 19, -1);
        Checks.quiet(x, "a word that does not fit any more: reading(-1)", () -> x.reading(-1), 2);
        x.removeWord(1);
        Checks.quiet(x, "a word that is removed: reading(-1)", () -> x.reading(-1), 1);
        Checks.quiet(x, "reading(0)", () -> x.reading(0), 0);
    }

    private static void mostReadings() {
        Document.says(25, "Returns the number of the word, or the number of readings if index is -1");
        ShorthandOutlines x = Checks.fullOf("bc");
        x.acceptProposal();
        Checks.pad(x, 4);
        // The brief forms are the strokes 0 to 11, each as far from 4 as its doubt says.
        int[] order = {4, 1, 3, 5, 7, 0, 2, 6, 8, 10, 9, 11};
        int[] doubts = {0, 1, 1, 1, 1, 2, 2, 2, 2, 2, 3, 3};
        Checks.due("reading(-1)", x.reading(-1), 12);
        for (int i = 0; i < 12; i++) {
            Checks.due("reading(" + i + ")", x.reading(i), order[i]);
            Checks.due("doubt(" + i + ")", x.doubt(i), doubts[i]);
        }
    }

    private static void readingsTooFew() {
        Document.says(25, "NONE if there are not so many readings");
        Document.says(26, "NONE if there are not so many readings");
        ShorthandOutlines x = Checks.fullOf("b");
        Checks.quiet(x, "the empty pad: reading(0)", () -> x.reading(0), -1);
        Checks.quiet(x, "the empty pad: doubt(0)", () -> x.doubt(0), -1);
        x.write(3);
        Checks.quiet(x, "of twelve: reading(11)", () -> x.reading(11), 11);
        Checks.quiet(x, "of twelve: doubt(11)", () -> x.doubt(11), 0);
        for (int index : new int[] {12, 13, Integer.MAX_VALUE}) {
            Checks.quiet(x, "of twelve: reading(" + index + ")", () -> x.reading(index), -1);
            Checks.quiet(x, "of twelve: doubt(" + index + ")", () -> x.doubt(index), -1);
        }
        x.write(3);
        Checks.quiet(x, "no word fits any more: reading(0)", () -> x.reading(0), -1);
        Checks.quiet(x, "no word fits any more: doubt(0)", () -> x.doubt(0), -1);
    }

    private static void readingOut() {
        Document.says(25, "OUT_OF_RANGE if index is less than -1");
        ShorthandOutlines x = Checks.having("b");
        Checks.refused(x, "the empty pad: reading(-2)", () -> x.reading(-2), -2);
        x.write(3);
        Checks.refused(x, "reading(-2)", () -> x.reading(-2), -2);
        Checks.refused(x, "reading(min)", () -> x.reading(Integer.MIN_VALUE), -2);
    }

    private static void tellsDoubt() {
        Document.says(26, "Returns the doubt, 0 to 3", "Returns the doubt of a reading",
            "`index`: index in the readings, from 0");
        ShorthandOutlines x = Checks.having("f", "e", "d", "c", "b");
        x.write(3);
        Checks.quiet(x, "a difference of 4 is no reading: reading(-1)", () -> x.reading(-1), 4);
        for (int i = 0; i < 4; i++) {
            int index = i;
            Checks.quiet(x, "doubt(" + i + ")", () -> x.doubt(index), i);
            Checks.quiet(x, "reading(" + i + ")", () -> x.reading(index), 4 - i);
        }
        Checks.quiet(x, "doubt(4)", () -> x.doubt(4), -1);
    }

    private static void doubtOfFullPad() {
        Document.says(26, "Returns the doubt, 0 to 3");
        ShorthandOutlines x = Checks.having("bcdfghbc");
        Checks.pad(x, 3, 6, 9, 15, 18, 21, 3, 6);
        Checks.due("doubt(0)", x.doubt(0), 0);
        Checks.pad(x, 4, 6, 9, 15, 18, 21, 4, 7);
        Checks.due("the last strokes count: doubt(0)", x.doubt(0), 3);
        Checks.pad(x, 4, 6, 9, 15, 18, 21, 4, 8);
        Checks.due("a sum of 4: doubt(0)", x.doubt(0), -1);
        Checks.pad(x, 3, 6, 9, 15, 18, 0, 3, 6);
        Checks.due("over the end of the circle: doubt(0)", x.doubt(0), 1);
    }

    private static void doubtOut() {
        Document.says(26, "OUT_OF_RANGE if index is negative");
        ShorthandOutlines x = Checks.having("b");
        Checks.refused(x, "the empty pad: doubt(-1)", () -> x.doubt(-1), -2);
        x.write(3);
        Checks.refused(x, "doubt(-1)", () -> x.doubt(-1), -2);
        Checks.refused(x, "doubt(-2)", () -> x.doubt(-2), -2);
        Checks.refused(x, "doubt(min)", () -> x.doubt(Integer.MIN_VALUE), -2);
    }
}
