/** Promises 16 to 22: brief forms, gains and proposals. */
public final class BriefFormsTest {
    public static void main(String[] args) {
        setBrief();
        loneOutlines();
        clearBrief();
        briefAndGain();
        proposalOrder();
        proposalStrokes();
        proposalIsMadeAnew();
        acceptProposal();
        Checks.finish();
    }

    private static void setBrief() {
        Checks.part("promise 16");
        ShorthandOutlines x = new ShorthandOutlines();
        Checks.due("setBrief(0, 0) without words", x.setBrief(0, 0), -2);
        Checks.add(x, "bc", 1);
        Checks.add(x, "cd", 1);
        Checks.due("setBrief(0, 23)", x.setBrief(0, 23), -1);
        Checks.due("setBrief(0, 0)", x.setBrief(0, 0), 23);
        Checks.due("the own stroke again", x.setBrief(0, 0), 0);
        Checks.due("the stroke of another", x.setBrief(1, 0), -3);
        Checks.due("the stroke that got free", x.setBrief(1, 23), -1);
        Checks.due("a stroke of an outline of two is free", x.setBrief(1, 3), 23);
        Checks.due("setBrief(2, 0)", x.setBrief(2, 0), -2);
        Checks.due("setBrief(-1, 0)", x.setBrief(-1, 0), -2);
        Checks.due("setBrief(0, 24)", x.setBrief(0, 24), -2);
        Checks.due("setBrief(0, -1)", x.setBrief(0, -1), -2);
        Checks.due("errorCount(-2)", x.errorCount(-2), 5);
        Checks.due("errorCount(-3)", x.errorCount(-3), 1);
        Checks.due("undo()", x.undo(), 4);
        Checks.due("undone: brief(1)", x.brief(1), 23);
        Checks.due("undo()", x.undo(), 3);
        Checks.due("undone: brief(1)", x.brief(1), -1);
    }

    private static void loneOutlines() {
        Checks.part("promise 16, outlines of one stroke");
        ShorthandOutlines x = new ShorthandOutlines();
        Checks.add(x, "baa", 1);
        Checks.add(x, "cd", 1);
        Checks.due("setBrief(1, 3)", x.setBrief(1, 3), -3);
        Checks.due("its own lone stroke is free for a word", x.setBrief(0, 3), -1);
        Checks.due("setBrief(0, 5)", x.setBrief(0, 5), 3);
        Checks.due("a word with a brief form frees its outline", x.setBrief(1, 3), -1);
        Checks.due("clearBrief(0)", x.clearBrief(0), 5);
        Checks.due("a stroke that is no more free: the same again", x.setBrief(1, 3), -3);
        Checks.due("brief(1) stays", x.brief(1), 3);
        ShorthandOutlines y = new ShorthandOutlines();
        Checks.add(y, "b", 1);
        Checks.add(y, "cd", 1);
        y.setSound(1, 9, 10);
        Checks.due("the first stroke is not free", y.setBrief(1, 9), -3);
        Checks.due("the second stroke is", y.setBrief(1, 10), -1);
    }

    private static void clearBrief() {
        Checks.part("promise 17");
        ShorthandOutlines x = new ShorthandOutlines();
        Checks.add(x, "bc", 1);
        Checks.due("clearBrief(0)", x.clearBrief(0), -3);
        Checks.due("clearBrief(1)", x.clearBrief(1), -2);
        Checks.due("clearBrief(-1)", x.clearBrief(-1), -2);
        x.setBrief(0, 0);
        Checks.due("the stroke 0 counts: clearBrief(0)", x.clearBrief(0), 0);
        Checks.due("brief(0)", x.brief(0), -1);
        Checks.due("undo()", x.undo(), 2);
        Checks.due("brief(0)", x.brief(0), 0);
        Checks.due("errorCount(-3)", x.errorCount(-3), 1);
        Checks.due("errorCount(-2)", x.errorCount(-2), 2);
    }

    private static void briefAndGain() {
        Checks.part("promises 18 and 19");
        ShorthandOutlines x = new ShorthandOutlines();
        Checks.add(x, "bcdfghbc", 999);
        Checks.add(x, "ba", 7);
        Checks.add(x, "abab", 7);
        Checks.due("gain(0)", x.gain(0), 6993);
        Checks.due("gain(1)", x.gain(1), 0);
        Checks.due("gain(2)", x.gain(2), 14);
        Checks.due("brief(2)", x.brief(2), -1);
        x.setBrief(2, 17);
        Checks.due("brief(2)", x.brief(2), 17);
        Checks.due("a brief form does not change the gain", x.gain(2), 14);
        for (int word : new int[] {-1, 3, Integer.MIN_VALUE, Integer.MAX_VALUE}) {
            Checks.due("brief(" + word + ")", x.brief(word), -2);
            Checks.due("gain(" + word + ")", x.gain(word), -2);
        }
        Checks.due("NONE is no error, errorCount(-2)", x.errorCount(-2), 8);
    }

    private static void proposalOrder() {
        Checks.part("promises 20 and 21, order");
        ShorthandOutlines x = new ShorthandOutlines();
        Checks.due("proposedWord(-1)", x.proposedWord(-1), 0);
        Checks.due("proposedWord(0)", x.proposedWord(0), -1);
        Checks.add(x, "b", 999);
        Checks.add(x, "bc", 10);
        Checks.add(x, "bcd", 10);
        Checks.add(x, "cb", 20);
        Checks.add(x, "dcb", 500);
        x.setBrief(4, 1);
        int[] words = {2, 3, 1};
        int[] strokes = {0, 2, 4};
        Checks.due("proposedWord(-1)", x.proposedWord(-1), 3);
        for (int i = 0; i < 3; i++) {
            Checks.due("proposedWord(" + i + ")", x.proposedWord(i), words[i]);
            Checks.due("proposedStroke(" + i + ")", x.proposedStroke(i), strokes[i]);
        }
        Checks.due("proposedWord(3)", x.proposedWord(3), -1);
        Checks.due("proposedStroke(3)", x.proposedStroke(3), -1);
        Checks.due("proposedWord(max)", x.proposedWord(Integer.MAX_VALUE), -1);
        Checks.due("proposedStroke(max)", x.proposedStroke(Integer.MAX_VALUE), -1);
        Checks.due("proposedWord(-2)", x.proposedWord(-2), -2);
        Checks.due("proposedWord(min)", x.proposedWord(Integer.MIN_VALUE), -2);
        Checks.due("proposedStroke(-1)", x.proposedStroke(-1), -2);
        Checks.due("proposedStroke(min)", x.proposedStroke(Integer.MIN_VALUE), -2);
        Checks.due("errorCount(-2)", x.errorCount(-2), 4);
    }

    private static void proposalStrokes() {
        Checks.part("promises 20 and 21, strokes");
        ShorthandOutlines x = new ShorthandOutlines();
        Checks.type(x, "bc");
        for (int word = 0; word < 12; word++) {
            x.addWord(12 - word);
        }
        Checks.due("proposedWord(-1)", x.proposedWord(-1), 12);
        for (int i = 0; i < 12; i++) {
            Checks.due("proposedWord", x.proposedWord(i), i);
            Checks.due("proposedStroke", x.proposedStroke(i), i);
        }
        x.setBrief(11, 0);
        x.setBrief(10, 2);
        Checks.due("proposedWord(-1)", x.proposedWord(-1), 10);
        Checks.due("proposedStroke(0)", x.proposedStroke(0), 1);
        Checks.due("proposedStroke(1)", x.proposedStroke(1), 3);
        Checks.due("proposedStroke(9)", x.proposedStroke(9), 11);
        x.setVowels(255);
        Checks.due("without gains", x.proposedWord(-1), 0);
    }

    private static void proposalIsMadeAnew() {
        Checks.part("promises 20 and 21, after a change");
        ShorthandOutlines x = new ShorthandOutlines();
        Checks.add(x, "bc", 1);
        Checks.due("proposedStroke(0)", x.proposedStroke(0), 0);
        Checks.add(x, "a", 1);
        Checks.due("proposedStroke(0)", x.proposedStroke(0), 1);
        x.setBrief(0, 5);
        Checks.due("proposedStroke(0)", x.proposedStroke(0), -1);
        x.clearBrief(0);
        Checks.due("proposedWord(0)", x.proposedWord(0), 0);
        x.removeWord(1);
        Checks.due("acceptProposal()", x.acceptProposal(), 1);
        Checks.due("brief(0)", x.brief(0), 0);
    }

    private static void acceptProposal() {
        Checks.part("promise 22");
        ShorthandOutlines x = new ShorthandOutlines();
        Checks.due("acceptProposal() of none", x.acceptProposal(), 0);
        Checks.due("it was saved: undo()", x.undo(), 0);
        Checks.add(x, "a", 5);
        Checks.add(x, "bc", 5);
        Checks.add(x, "bcd", 5);
        Checks.due("acceptProposal()", x.acceptProposal(), 2);
        Checks.due("brief(0)", x.brief(0), -1);
        Checks.due("brief(1)", x.brief(1), 2);
        Checks.due("brief(2)", x.brief(2), 1);
        Checks.due("proposedWord(-1)", x.proposedWord(-1), 0);
        Checks.due("acceptProposal()", x.acceptProposal(), 0);
        Checks.due("undo()", x.undo(), 4);
        Checks.due("brief(1)", x.brief(1), 2);
        Checks.due("undo()", x.undo(), 3);
        Checks.due("brief(1)", x.brief(1), -1);
        Checks.due("proposedWord(-1)", x.proposedWord(-1), 2);
    }
}
