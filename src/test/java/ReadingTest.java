/** Promises 23 to 26: the pad and its readings. */
public final class ReadingTest {
    public static void main(String[] args) {
        writeAndClearPad();
        differences();
        limitOfDoubt();
        briefForms();
        nearerStroke();
        order();
        ranges();
        Checks.finish();
    }

    private static void writeAndClearPad() {
        Checks.part("promises 23 and 24");
        ShorthandOutlines x = new ShorthandOutlines();
        Checks.due("write(-1)", x.write(-1), -2);
        Checks.due("write(24)", x.write(24), -2);
        Checks.due("write(0)", x.write(0), 1);
        Checks.due("write(23)", x.write(23), 2);
        for (int length = 3; length <= 8; length++) {
            Checks.due("write(1)", x.write(1), length);
        }
        Checks.due("write(1) to 8 strokes", x.write(1), -4);
        Checks.due("the range comes before the room", x.write(24), -2);
        Checks.due("errorCount(-4)", x.errorCount(-4), 1);
        Checks.due("errorCount(-2)", x.errorCount(-2), 3);
        Checks.due("clearPad()", x.clearPad(), 8);
        Checks.due("clearPad()", x.clearPad(), 0);
        Checks.due("write(5)", x.write(5), 1);
        Checks.due("neither is undoable: undo()", x.undo(), -5);
    }

    private static void differences() {
        Checks.part("promise 26, differences");
        for (int own = 0; own < 24; own++) {
            ShorthandOutlines x = Checks.having("a");
            x.setSound(0, own, -1);
            for (int written = 0; written < 24; written++) {
                int steps = Math.floorMod(own / 3 - written / 3, 8);
                int doubt = Math.min(steps, 8 - steps) + Math.abs(own % 3 - written % 3);
                Checks.pad(x, written);
                String call = "doubt(0) of " + written + " for " + own;
                Checks.due(call, x.doubt(0), doubt <= 3 ? doubt : -1);
                Checks.due(call, x.reading(-1), doubt <= 3 ? 1 : 0);
            }
        }
    }

    private static void limitOfDoubt() {
        Checks.part("promise 25, which words fit");
        ShorthandOutlines x = new ShorthandOutlines();
        Checks.add(x, "bac", 1);
        Checks.due("the empty pad", x.reading(-1), 0);
        Checks.pad(x, 4, 8);
        Checks.due("1 + 2: doubt(0)", x.doubt(0), 3);
        Checks.pad(x, 5, 8);
        Checks.due("2 + 2: reading(-1)", x.reading(-1), 0);
        Checks.pad(x, 3);
        Checks.due("too short: reading(-1)", x.reading(-1), 0);
        Checks.pad(x, 3, 0, 6);
        Checks.due("too long: reading(-1)", x.reading(-1), 0);
        x.setVowels(0);
        Checks.due("with the vowel: doubt(0)", x.doubt(0), 0);
    }

    private static void briefForms() {
        Checks.part("promise 25, brief forms");
        ShorthandOutlines x = new ShorthandOutlines();
        Checks.add(x, "bc", 1);
        x.setBrief(0, 20);
        Checks.due("the empty pad", x.reading(-1), 0);
        Checks.pad(x, 3, 6);
        Checks.due("the outline is not read: reading(-1)", x.reading(-1), 0);
        Checks.pad(x, 23);
        Checks.due("reading(0)", x.reading(0), 0);
        Checks.due("doubt(0)", x.doubt(0), 1);
        Checks.pad(x, 20, 20);
        Checks.due("two strokes: reading(-1)", x.reading(-1), 0);
        Checks.add(x, "d", 1);
        x.setBrief(1, 0);
        Checks.pad(x, 9);
        Checks.due("a lone outline behind a brief form: doubt(0)", x.doubt(0), 3);
        x.clearBrief(1);
        Checks.due("without it: doubt(0)", x.doubt(0), 0);
        Checks.due("reading(0)", x.reading(0), 1);
    }

    private static void nearerStroke() {
        Checks.part("promise 26, the nearer stroke");
        ShorthandOutlines x = new ShorthandOutlines();
        x.setSound(1, 0, 12);
        x.setSound(2, 3, 15);
        Checks.add(x, "bc", 1);
        // The written outline is 0 3, but every choice may be read.
        Checks.pad(x, 12, 15);
        Checks.due("doubt(0)", x.doubt(0), 0);
        Checks.pad(x, 0, 15);
        Checks.due("doubt(0)", x.doubt(0), 0);
        Checks.pad(x, 1, 18);
        Checks.due("doubt(0)", x.doubt(0), 2);
        Checks.pad(x, 6, 3);
        Checks.due("doubt(0)", x.doubt(0), 2);
    }

    private static void order() {
        Checks.part("promise 25, order");
        ShorthandOutlines x = new ShorthandOutlines();
        Checks.add(x, "b", 1);
        Checks.add(x, "ca", 999);
        Checks.add(x, "a", 999);
        Checks.add(x, "b", 2);
        Checks.add(x, "e", 999);
        Checks.add(x, "be", 2);
        Checks.pad(x, 3);
        int[] words = {3, 5, 0, 1, 2, 4};
        int[] doubts = {0, 0, 0, 1, 1, 3};
        Checks.due("reading(-1)", x.reading(-1), words.length);
        for (int i = 0; i < words.length; i++) {
            Checks.due("reading(" + i + ")", x.reading(i), words[i]);
            Checks.due("doubt(" + i + ")", x.doubt(i), doubts[i]);
        }
        ShorthandOutlines y = new ShorthandOutlines();
        Checks.add(y, "c", 999);
        Checks.add(y, "b", 1);
        Checks.pad(y, 3);
        Checks.due("one step of doubt outweighs all frequencies", y.reading(0), 1);
    }

    private static void ranges() {
        Checks.part("promises 25 and 26, ranges");
        ShorthandOutlines x = new ShorthandOutlines();
        Checks.add(x, "b", 1);
        Checks.pad(x, 3);
        Checks.due("reading(-1)", x.reading(-1), 1);
        Checks.due("reading(1)", x.reading(1), -1);
        Checks.due("reading(max)", x.reading(Integer.MAX_VALUE), -1);
        Checks.due("reading(-2)", x.reading(-2), -2);
        Checks.due("reading(min)", x.reading(Integer.MIN_VALUE), -2);
        Checks.due("doubt(1)", x.doubt(1), -1);
        Checks.due("doubt(max)", x.doubt(Integer.MAX_VALUE), -1);
        Checks.due("doubt(-1)", x.doubt(-1), -2);
        Checks.due("doubt(min)", x.doubt(Integer.MIN_VALUE), -2);
        Checks.due("errorCount(-2)", x.errorCount(-2), 4);
    }
}
