/** Promises 11 to 15: written outlines and joins. */
public final class OutlinesTest {
    public static void main(String[] args) {
        strokes();
        strokeAndCost();
        ties();
        greedyWouldFail();
        outlines();
        joinCost();
        noSuchWord();
        Checks.finish();
    }

    private static void strokes() {
        Checks.part("promise 11");
        ShorthandOutlines x = new ShorthandOutlines();
        Checks.add(x, "a", 1);
        Checks.add(x, "aaaa", 1);
        Checks.add(x, "baed", 1);
        Checks.add(x, "eabeab", 1);
        Checks.add(x, "hhhhhhhh", 1);
        Checks.due("strokes(0)", x.strokes(0), 1);
        Checks.due("a first vowel is written: strokes(1)", x.strokes(1), 1);
        Checks.due("strokes(2)", x.strokes(2), 2);
        Checks.due("strokes(3)", x.strokes(3), 3);
        Checks.due("strokes(4)", x.strokes(4), 8);
        x.setBrief(4, 0);
        Checks.due("with a brief form too", x.strokes(4), 8);
    }

    private static void strokeAndCost() {
        Checks.part("promises 12 and 13");
        ShorthandOutlines x = new ShorthandOutlines();
        Checks.add(x, "ecah", 1);
        Checks.due("stroke(0, 0)", x.stroke(0, 0), 12);
        Checks.due("stroke(0, 1)", x.stroke(0, 1), 6);
        Checks.due("stroke(0, 2)", x.stroke(0, 2), 21);
        Checks.due("stroke(0, 3)", x.stroke(0, 3), -2);
        Checks.due("stroke(0, -1)", x.stroke(0, -1), -2);
        Checks.due("stroke(1, 0)", x.stroke(1, 0), -2);
        Checks.due("stroke(-1, 0)", x.stroke(-1, 0), -2);
        Checks.due("stroke(0, max)", x.stroke(0, Integer.MAX_VALUE), -2);
        Checks.due("stroke(0, min)", x.stroke(0, Integer.MIN_VALUE), -2);
        Checks.due("cost(0)", x.cost(0), 2 + 3);
        Checks.add(x, "b", 1);
        Checks.due("no joins: cost(1)", x.cost(1), 0);
        Checks.due("the outline before does not shine through", x.stroke(1, 1), -2);
        Checks.add(x, "hhh", 1);
        Checks.due("equal strokes: cost(2)", x.cost(2), 6);
        x.setSound(7, 21, 22);
        Checks.due("cost(2)", x.cost(2), 0);
        Checks.due("errorCount(-2)", x.errorCount(-2), 7);
    }

    private static void ties() {
        Checks.part("promise 12, equal costs");
        ShorthandOutlines x = new ShorthandOutlines();
        Checks.add(x, "hhh", 1);
        x.setSound(7, 22, 21);
        Checks.due("22 21 22 before 21 22 21", x.stroke(0, 0), 22);
        Checks.due("stroke(0, 1)", x.stroke(0, 1), 21);
        Checks.due("stroke(0, 2)", x.stroke(0, 2), 22);
        Checks.add(x, "b", 1);
        x.setSound(1, 9, 0);
        Checks.due("a lone stroke is the first one", x.stroke(1, 0), 9);
        Checks.add(x, "cd", 1);
        x.setSound(2, 0, 3);
        x.setSound(3, 3, 0);
        // 0 3, 3 0 cost 1 and 0 0, 3 3 cost 3.
        Checks.due("stroke(2, 0)", x.stroke(2, 0), 0);
        Checks.due("stroke(2, 1)", x.stroke(2, 1), 3);
        x.setSound(2, 0, 0);
        Checks.due("equal codes: stroke(2, 0)", x.stroke(2, 0), 0);
        Checks.due("equal codes are two choices", x.outlines(2), 4);
        tieDecidedInFront();
    }

    private static void tieDecidedInFront() {
        ShorthandOutlines x = new ShorthandOutlines();
        x.setSound(1, 0, 6);
        x.setSound(2, 6, 0);
        Checks.add(x, "bdc", 1);
        x.setSound(3, 3, -1);
        // All four cost 2; the first position decides, then the last.
        Checks.due("stroke(0, 0)", x.stroke(0, 0), 0);
        Checks.due("stroke(0, 2)", x.stroke(0, 2), 6);
        x.setSound(2, 9, 6);
        Checks.due("the cheaper end is taken", x.stroke(0, 2), 6);
        Checks.due("and the first stroke in front", x.stroke(0, 0), 0);
        Checks.due("cost(0)", x.cost(0), 2);
    }

    private static void greedyWouldFail() {
        Checks.part("promise 13, the least cost of all");
        ShorthandOutlines x = new ShorthandOutlines();
        x.setSound(1, 0, -1);
        x.setSound(2, 3, 21);
        x.setSound(3, 15, -1);
        Checks.add(x, "bcd", 1);
        // Both joins to c cost 1, but from 21 it is 2 steps to 15 and from 3 it is 4.
        Checks.due("stroke(0, 1)", x.stroke(0, 1), 21);
        Checks.due("cost(0)", x.cost(0), 3);
        x.setSound(2, 0, 21);
        // Now the first choice costs 3 + 3 = 6 against 1 + 2.
        Checks.due("stroke(0, 1)", x.stroke(0, 1), 21);
        x.setSound(2, 1, 18);
        // 0 + 3 against 2 + 1: equal, so the first stroke.
        Checks.due("stroke(0, 1)", x.stroke(0, 1), 1);
        Checks.due("cost(0)", x.cost(0), 3);
        x.setSound(2, 4, 18);
        // The dearer join comes first, the whole is cheaper: 1 + 4 against 2 + 1.
        Checks.due("stroke(0, 1)", x.stroke(0, 1), 18);
        Checks.due("cost(0)", x.cost(0), 3);
        secondStrokeInFront();
    }

    private static void secondStrokeInFront() {
        ShorthandOutlines x = new ShorthandOutlines();
        x.setSound(1, 0, 15);
        x.setSound(2, 12, 18);
        Checks.add(x, "bce", 1);
        Checks.add(x, "bcd", 1);
        // 15 12 and 15 18 cost 1 against 4 and 2; with d behind, 15 12 9 costs 2.
        Checks.due("stroke(0, 0)", x.stroke(0, 0), 15);
        Checks.due("stroke(0, 1)", x.stroke(0, 1), 12);
        Checks.due("cost(0)", x.cost(0), 1);
        Checks.due("stroke(1, 0)", x.stroke(1, 0), 15);
        Checks.due("stroke(1, 1)", x.stroke(1, 1), 12);
        Checks.due("stroke(1, 2)", x.stroke(1, 2), 9);
        Checks.due("cost(1)", x.cost(1), 2);
    }

    private static void outlines() {
        Checks.part("promise 14");
        ShorthandOutlines x = new ShorthandOutlines();
        Checks.add(x, "bbbbbbbb", 1);
        Checks.add(x, "abac", 1);
        Checks.due("outlines(0)", x.outlines(0), 1);
        x.setSound(1, 3, 4);
        Checks.due("outlines(0)", x.outlines(0), 256);
        Checks.due("outlines(1)", x.outlines(1), 2);
        x.setSound(0, 0, 0);
        Checks.due("a vowel counts where it is written", x.outlines(1), 4);
        Checks.due("outlines(2)", x.outlines(2), -2);
        Checks.due("outlines(-1)", x.outlines(-1), -2);
    }

    private static void joinCost() {
        Checks.part("promise 15");
        for (int a = 0; a < 24; a++) {
            ShorthandOutlines x = new ShorthandOutlines();
            for (int b = 0; b < 24; b++) {
                int steps = Math.floorMod(a / 3 - b / 3, 8);
                int turn = steps <= 4 ? steps : 8 - steps;
                Checks.due("joinCost(" + a + ", " + b + ")", x.joinCost(a, b), a == b ? 3 : turn);
            }
        }
        ShorthandOutlines x = new ShorthandOutlines();
        for (int wrong : new int[] {-1, 24, Integer.MIN_VALUE, Integer.MAX_VALUE}) {
            Checks.due("joinCost(" + wrong + ", 0)", x.joinCost(wrong, 0), -2);
            Checks.due("joinCost(0, " + wrong + ")", x.joinCost(0, wrong), -2);
        }
        Checks.due("errorCount(-2)", x.errorCount(-2), 8);
    }

    private static void noSuchWord() {
        Checks.part("promises 11 to 14, no such word");
        ShorthandOutlines x = new ShorthandOutlines();
        Checks.add(x, "bc", 1);
        for (int word : new int[] {-1, 1, 12, Integer.MIN_VALUE, Integer.MAX_VALUE}) {
            Checks.due("strokes(" + word + ")", x.strokes(word), -2);
            Checks.due("stroke(" + word + ", 0)", x.stroke(word, 0), -2);
            Checks.due("cost(" + word + ")", x.cost(word), -2);
            Checks.due("outlines(" + word + ")", x.outlines(word), -2);
        }
        Checks.due("errorCount(-2)", x.errorCount(-2), 20);
    }
}
