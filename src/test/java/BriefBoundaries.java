/** Promises 16 to 22: brief forms, gains and proposals. */
final class BriefBoundaries {
    private BriefBoundaries() {
    }

    static void run() {
        givesBrief();
        setBriefUndoable();
        previousBrief();
        noWordOrCode();
        notFree();
        lonesAreNotFree();
        takesBriefAway();
        clearBriefUndoable();
        noWordToClear();
        noBriefToClear();
        tellsBrief();
        noBrief();
        noWordForBrief();
        tellsGain();
        noWordForGain();
        tellsProposedWord();
        proposalTooShort();
        proposedWordOut();
        tellsProposedStroke();
        proposedStrokeOut();
        accepts();
        acceptProposalUndoable();
    }

    private static void givesBrief() {
        Document.says(16, "Gives a word a brief form (in place of the one that it may have)", "`word`: number of a word",
            "`stroke`: code of a stroke");
        ShorthandOutlines x = Checks.fullOf("bc");
        x.setBrief(0, 0);
        x.setBrief(11, 23);
        Checks.due("the first word, the least code: brief(0)", x.brief(0), 0);
        Checks.due("the last word, the greatest code: brief(11)", x.brief(11), 23);
        x.setBrief(11, 1);
        Checks.due("in place of it: brief(11)", x.brief(11), 1);
        Checks.due("the old one is free: setBrief(0, 23)", x.setBrief(0, 23), 0);
        for (int word = 1; word < 11; word++) {
            Checks.due("the others have none: brief(" + word + ")", x.brief(word), -1);
        }
    }

    private static void setBriefUndoable() {
        Document.says(16, "Undoable");
        ShorthandOutlines x = Checks.having("bc");
        x.setBrief(0, 0);
        x.setBrief(0, 23);
        Checks.due("undo()", x.undo(), 2);
        Checks.due("brief(0)", x.brief(0), 0);
        Checks.due("undo()", x.undo(), 1);
        Checks.due("brief(0)", x.brief(0), -1);
    }

    private static void previousBrief() {
        Document.says(16, "Returns the previous brief form, NONE if the word had none");
        ShorthandOutlines x = Checks.having("bc");
        Checks.due("setBrief(0, 0)", x.setBrief(0, 0), -1);
        Checks.due("setBrief(0, 23)", x.setBrief(0, 23), 0);
        Checks.due("its own again: setBrief(0, 23)", x.setBrief(0, 23), 23);
        x.clearBrief(0);
        Checks.due("setBrief(0, 5)", x.setBrief(0, 5), -1);
        Checks.due("NONE is no error: errorCount(-2)", x.errorCount(-2), 0);
    }

    private static void noWordOrCode() {
        Document.says(16, "OUT_OF_RANGE if there is no such word or stroke is not a code");
        ShorthandOutlines x = new ShorthandOutlines();
        Checks.refused(x, "without words: setBrief(0, 0)", () -> x.setBrief(0, 0), -2);
        Checks.add(x, "bc", 1);
        x.setBrief(0, 7);
        for (int word : Checks.noWords(x)) {
            Checks.refused(x, "setBrief(" + word + ", 0)", () -> x.setBrief(word, 0), -2);
            Checks.refused(x, "neither: setBrief(" + word + ", 24)", () -> x.setBrief(word, 24), -2);
        }
        for (int stroke : Checks.NO_STROKES) {
            Checks.refused(x, "setBrief(0, " + stroke + ")", () -> x.setBrief(0, stroke), -2);
        }
        Checks.due("brief(0)", x.brief(0), 7);
    }

    private static void notFree() {
        Document.says(16, "NOT_POSSIBLE if the stroke is not free for the word");
        ShorthandOutlines x = Checks.fullOf("bc");
        for (int word = 0; word < 12; word++) {
            x.setBrief(word, word);
        }
        for (int stroke = 0; stroke < 12; stroke++) {
            int other = stroke == 0 ? 11 : 0;
            int taken = stroke;
            Checks.refused(x, "setBrief(" + other + ", " + taken + ")", () -> x.setBrief(other, taken), -3);
        }
        Checks.due("the first that is free: setBrief(0, 12)", x.setBrief(0, 12), 0);
        Checks.due("and the one that got free: setBrief(11, 0)", x.setBrief(11, 0), 11);
    }

    private static void lonesAreNotFree() {
        Document.says(16, "NOT_POSSIBLE if the stroke is not free for the word");
        ShorthandOutlines x = Checks.having("bae", "bcd", "b");
        x.setSound(1, 5, 6);
        Checks.refused(x, "the lone stroke of a word with vowels", () -> x.setBrief(1, 5), -3);
        Checks.refused(x, "the lone stroke of an equal outline", () -> x.setBrief(0, 5), -3);
        Checks.due("the second stroke is not written", x.setBrief(1, 6), -1);
        x.setVowels(255);
        x.setBrief(2, 20);
        x.clearBrief(1);
        Checks.refused(x, "all outlines are of one stroke now", () -> x.setBrief(2, 5), -3);
        x.removeWord(0);
        x.removeWord(0);
        Checks.due("its own lone stroke: setBrief(0, 5)", x.setBrief(0, 5), 20);
    }

    private static void takesBriefAway() {
        Document.says(17, "Takes the brief form of a word away", "Returns the brief form that the word had",
            "`word`: number of a word");
        ShorthandOutlines x = Checks.having("bc", "cd");
        x.setBrief(0, 0);
        x.setBrief(1, 23);
        Checks.due("the least code: clearBrief(0)", x.clearBrief(0), 0);
        Checks.due("brief(0)", x.brief(0), -1);
        Checks.due("the other stays: brief(1)", x.brief(1), 23);
        Checks.due("the greatest code: clearBrief(1)", x.clearBrief(1), 23);
        Checks.due("it is free: setBrief(0, 23)", x.setBrief(0, 23), -1);
    }

    private static void clearBriefUndoable() {
        Document.says(17, "Undoable");
        ShorthandOutlines x = Checks.having("bc");
        x.setBrief(0, 0);
        x.clearBrief(0);
        Checks.due("undo()", x.undo(), 2);
        Checks.due("brief(0)", x.brief(0), 0);
        Checks.due("undo()", x.undo(), 1);
        Checks.due("brief(0)", x.brief(0), -1);
    }

    private static void noWordToClear() {
        Document.says(17, "OUT_OF_RANGE if there is no such word");
        ShorthandOutlines x = new ShorthandOutlines();
        Checks.refused(x, "without words: clearBrief(0)", () -> x.clearBrief(0), -2);
        Checks.add(x, "bc", 1);
        x.setBrief(0, 0);
        for (int word : Checks.noWords(x)) {
            Checks.refused(x, "clearBrief(" + word + ")", () -> x.clearBrief(word), -2);
        }
        Checks.due("brief(0)", x.brief(0), 0);
    }

    private static void noBriefToClear() {
        Document.says(17, "NOT_POSSIBLE if it has no brief form");
        ShorthandOutlines x = Checks.having("bc", "b");
        Checks.refused(x, "never given: clearBrief(0)", () -> x.clearBrief(0), -3);
        Checks.refused(x, "a lone stroke: clearBrief(1)", () -> x.clearBrief(1), -3);
        x.setBrief(0, 0);
        x.clearBrief(0);
        Checks.refused(x, "taken away: clearBrief(0)", () -> x.clearBrief(0), -3);
    }

    private static void tellsBrief() {
        Document.says(18, "Returns the brief form of a word", "Returns the code of the stroke", "`word`: number of a word");
        ShorthandOutlines x = Checks.fullOf("bc");
        x.setBrief(0, 23);
        x.setBrief(11, 0);
        Checks.quiet(x, "brief(0)", () -> x.brief(0), 23);
        Checks.quiet(x, "brief(11)", () -> x.brief(11), 0);
    }

    private static void noBrief() {
        Document.says(18, "NONE if the word has no brief form");
        ShorthandOutlines x = Checks.having("bc", "b");
        Checks.quiet(x, "brief(0)", () -> x.brief(0), -1);
        Checks.quiet(x, "a lone stroke is no brief form: brief(1)", () -> x.brief(1), -1);
        x.proposedWord(0);
        Checks.quiet(x, "nor is a proposed stroke: brief(0)", () -> x.brief(0), -1);
    }

    private static void noWordForBrief() {
        Document.says(18, "OUT_OF_RANGE if there is no such word");
        ShorthandOutlines x = new ShorthandOutlines();
        Checks.refused(x, "without words: brief(0)", () -> x.brief(0), -2);
        Checks.add(x, "bc", 1);
        for (int word : Checks.noWords(x)) {
            Checks.refused(x, "brief(" + word + ")", () -> x.brief(word), -2);
        }
    }

    private static void tellsGain() {
        Document.says(19, "Returns the gain of a word", "Returns the gain", "`word`: number of a word");
        ShorthandOutlines x = new ShorthandOutlines();
        Checks.add(x, "bae", 999);
        Checks.add(x, "bc", 1);
        Checks.add(x, "bcdfghbc", 999);
        Checks.quiet(x, "one stroke: gain(0)", () -> x.gain(0), 0);
        Checks.quiet(x, "gain(1)", () -> x.gain(1), 1);
        Checks.quiet(x, "the greatest: gain(2)", () -> x.gain(2), 6993);
        x.setBrief(2, 0);
        Checks.due("with a brief form too: gain(2)", x.gain(2), 6993);
        x.setVowels(0);
        Checks.due("gain(0)", x.gain(0), 1998);
        x.setVowels(255);
        Checks.due("gain(2)", x.gain(2), 0);
    }

    private static void noWordForGain() {
        Document.says(19, "OUT_OF_RANGE if there is no such word");
        ShorthandOutlines x = new ShorthandOutlines();
        Checks.refused(x, "without words: gain(0)", () -> x.gain(0), -2);
        Checks.add(x, "bc", 1);
        for (int word : Checks.noWords(x)) {
            Checks.refused(x, "gain(" + word + ")", () -> x.gain(word), -2);
        }
    }

    private static void tellsProposedWord() {
        Document.says(20, "Returns the number of the word, or the number of words if index is -1",
            "Returns a word of the proposal",
            "`index`: index in the proposal, from 0, or -1 for the number of words in the proposal");
        ShorthandOutlines x = new ShorthandOutlines();
        Checks.quiet(x, "empty: proposedWord(-1)", () -> x.proposedWord(-1), 0);
        Checks.add(x, "b", 9);
        Checks.add(x, "bc", 1);
        Checks.add(x, "bc", 2);
        Checks.quiet(x, "proposedWord(-1)", () -> x.proposedWord(-1), 2);
        Checks.quiet(x, "the first: proposedWord(0)", () -> x.proposedWord(0), 2);
        Checks.quiet(x, "the last: proposedWord(1)", () -> x.proposedWord(1), 1);
        ShorthandOutlines y = Checks.fullOf("bc");
        Checks.quiet(y, "the most: proposedWord(-1)", () -> y.proposedWord(-1), 12);
        Checks.quiet(y, "proposedWord(11)", () -> y.proposedWord(11), 11);
    }

    private static void proposalTooShort() {
        Document.says(20, "NONE if the proposal has not so many words");
        Document.says(21, "NONE if the proposal has not so many words");
        ShorthandOutlines x = Checks.having("b", "bc", "cb");
        for (int index : new int[] {2, 3, 12, Integer.MAX_VALUE}) {
            Checks.quiet(x, "proposedWord(" + index + ")", () -> x.proposedWord(index), -1);
            Checks.quiet(x, "proposedStroke(" + index + ")", () -> x.proposedStroke(index), -1);
        }
        ShorthandOutlines y = Checks.fullOf("bc");
        Checks.quiet(y, "of twelve: proposedWord(12)", () -> y.proposedWord(12), -1);
        Checks.quiet(y, "of twelve: proposedStroke(12)", () -> y.proposedStroke(12), -1);
        y.acceptProposal();
        Checks.quiet(y, "after twelve: proposedWord(0)", () -> y.proposedWord(0), -1);
        Checks.quiet(y, "after twelve: proposedStroke(0)", () -> y.proposedStroke(0), -1);
    }

    private static void proposedWordOut() {
        Document.says(20, "OUT_OF_RANGE if index is less than -1");
        ShorthandOutlines x = Checks.having("bc");
        Checks.refused(x, "proposedWord(-2)", () -> x.proposedWord(-2), -2);
        Checks.refused(x, "proposedWord(min)", () -> x.proposedWord(Integer.MIN_VALUE), -2);
    }

    private static void tellsProposedStroke() {
        Document.says(21, "Returns the stroke that the proposal gives to a word", "Returns the code of the stroke",
            "`index`: index in the proposal, from 0");
        ShorthandOutlines x = Checks.fullOf("bc");
        Checks.quiet(x, "the first: proposedStroke(0)", () -> x.proposedStroke(0), 0);
        Checks.quiet(x, "the last: proposedStroke(11)", () -> x.proposedStroke(11), 11);
        x.setBrief(0, 0);
        Checks.quiet(x, "proposedStroke(0)", () -> x.proposedStroke(0), 1);
        Checks.quiet(x, "proposedStroke(10)", () -> x.proposedStroke(10), 11);
        Checks.quiet(x, "proposedStroke(11)", () -> x.proposedStroke(11), -1);
    }

    private static void proposedStrokeOut() {
        Document.says(21, "OUT_OF_RANGE if index is negative");
        ShorthandOutlines x = Checks.having("bc");
        Checks.refused(x, "proposedStroke(-1)", () -> x.proposedStroke(-1), -2);
        Checks.refused(x, "proposedStroke(-2)", () -> x.proposedStroke(-2), -2);
        Checks.refused(x, "proposedStroke(min)", () -> x.proposedStroke(Integer.MIN_VALUE), -2);
    }

    private static void accepts() {
        Document.says(22, "Gives the words of the proposal their strokes as brief forms",
            "Returns the number of words that got a brief form");
        ShorthandOutlines x = new ShorthandOutlines();
        Checks.due("without words: acceptProposal()", x.acceptProposal(), 0);
        Checks.add(x, "a", 9);
        Checks.due("without gains: acceptProposal()", x.acceptProposal(), 0);
        ShorthandOutlines y = Checks.fullOf("bc");
        Checks.due("the most: acceptProposal()", y.acceptProposal(), 12);
        for (int word = 0; word < 12; word++) {
            Checks.due("brief(" + word + ")", y.brief(word), word);
        }
        Checks.due("again: acceptProposal()", y.acceptProposal(), 0);
        y.clearBrief(5);
        Checks.due("for one word: acceptProposal()", y.acceptProposal(), 1);
        Checks.due("brief(5)", y.brief(5), 5);
        Checks.due("brief(11)", y.brief(11), 11);
    }

    private static void acceptProposalUndoable() {
        Document.says(22, "Undoable");
        ShorthandOutlines x = Checks.fullOf("bc");
        x.acceptProposal();
        x.acceptProposal();
        Checks.due("of no words: undo()", x.undo(), 4);
        Checks.due("brief(0)", x.brief(0), 0);
        Checks.due("of twelve words at once: undo()", x.undo(), 3);
        for (int word = 0; word < 12; word++) {
            Checks.due("brief(" + word + ")", x.brief(word), -1);
        }
    }
}
