/** The section "Description": Undo, Errors and the constants. */
final class UndoAndErrorBoundaries {
    private UndoAndErrorBoundaries() {
    }

    static void run() {
        savedWithoutChange();
        savedByEachMethod();
        oldestDropped();
        whatIsSaved();
        refusedChangesNothing();
        refusedSavesNothing();
        orderOfChecks();
        outOfRange();
        notPossible();
        full();
        nothingSaved();
        none();
    }

    private static void savedWithoutChange() {
        Document.says(0, "saves the state from before the call, even if the call changes nothing");
        ShorthandOutlines x = Checks.having("bc");
        x.setBrief(0, 5);
        x.setSound(0, 0, -1);
        x.setVowels(17);
        x.setBrief(0, 5);
        x.acceptProposal();
        for (int left = 4; left >= 1; left--) {
            Checks.due("undo()", x.undo(), left);
            Checks.due("brief(0)", x.brief(0), 5);
        }
        Checks.due("undo()", x.undo(), 0);
        Checks.due("brief(0)", x.brief(0), -1);
    }

    private static void savedByEachMethod() {
        Document.says(0, "Each successful call of a method whose description says \"undoable\" saves the state");
        ShorthandOutlines x = new ShorthandOutlines();
        long empty = x.digest();
        x.setSound(7, 0, 0);
        Checks.due("setSound: undo()", x.undo(), 0);
        x.setVowels(0);
        Checks.due("setVowels: undo()", x.undo(), 0);
        x.acceptProposal();
        Checks.due("acceptProposal: undo()", x.undo(), 0);
        x.append('a');
        x.addWord(1);
        x.clearText();
        Checks.due("addWord: undo()", x.undo(), 0);
        Checks.due("all is as it was: digest()", x.digest(), empty);
        Checks.add(x, "bc", 1);
        long oneWord = x.digest();
        x.removeWord(0);
        Checks.due("removeWord: undo()", x.undo(), 1);
        x.setBrief(0, 0);
        Checks.due("setBrief: undo()", x.undo(), 1);
        Checks.due("all is as it was: digest()", x.digest(), oneWord);
        x.setBrief(0, 0);
        x.clearBrief(0);
        Checks.due("clearBrief: undo()", x.undo(), 2);
        Checks.due("brief(0)", x.brief(0), 0);
    }

    private static void oldestDropped() {
        Document.says(0, "at most 5 states are saved, and the oldest is dropped first");
        ShorthandOutlines x = Checks.having("a");
        for (int first = 1; first <= 7; first++) {
            x.setSound(0, first, -1);
        }
        // Saved are now the states with 2, 3, 4, 5 and 6.
        undoTo(x, 4, 6);
        undoTo(x, 3, 5);
        undoTo(x, 2, 4);
        for (int first = 11; first <= 14; first++) {
            x.setSound(0, first, -1);
        }
        // The state with 2 was dropped by the last of these, in the second round over the five.
        undoTo(x, 4, 13);
        undoTo(x, 3, 12);
        undoTo(x, 2, 11);
        undoTo(x, 1, 4);
        undoTo(x, 0, 3);
        Checks.refused(x, "undo()", x::undo, -5);
        Checks.due("stroke(0, 0)", x.stroke(0, 0), 3);
    }

    private static void undoTo(ShorthandOutlines x, int left, int first) {
        Checks.due("undo()", x.undo(), left);
        Checks.due("stroke(0, 0)", x.stroke(0, 0), first);
    }

    private static void whatIsSaved() {
        Document.says(0, "The saved state contains the sounds and the dictionary with its brief forms, but not the pad");
        ShorthandOutlines x = Checks.having("bcd", "ca");
        x.setBrief(0, 23);
        Checks.pad(x, 1, 2);
        x.setSound(2, 7, 8);
        x.setVowels(8);
        x.removeWord(0);
        Checks.pad(x, 7, 8, 9);
        Checks.type(x, "abcdefgh");
        x.append(97);
        Checks.due("undo()", x.undo(), 4);
        Checks.due("the word is back: words()", x.words(), 2);
        Checks.due("with its letters: letters(0)", x.letters(0), 3);
        Checks.due("and its brief form: brief(0)", x.brief(0), 23);
        Checks.due("undo()", x.undo(), 3);
        Checks.due("the vowels: strokes(0)", x.strokes(0), 3);
        Checks.due("a second stroke: outlines(0)", x.outlines(0), 2);
        Checks.due("undo()", x.undo(), 2);
        Checks.due("the second stroke: outlines(0)", x.outlines(0), 1);
        Checks.due("the first stroke: stroke(1, 0)", x.stroke(1, 0), 6);
        Checks.due("the counter stays: errorCount(-4)", x.errorCount(-4), 1);
        Checks.due("the pad stays: clearPad()", x.clearPad(), 3);
        Checks.due("the text stays: addWord(1)", x.addWord(1), 2);
        Checks.due("letters(2)", x.letters(2), 8);
    }

    private static ShorthandOutlines fullSystem() {
        ShorthandOutlines x = Checks.fullOf("bcdfghbc");
        x.setBrief(3, 20);
        x.removeWord(11);
        Checks.add(x, "h", 999);
        Checks.type(x, "abcdefgh");
        Checks.pad(x, 3, 6, 9, 15, 18, 21, 3, 6);
        return x;
    }

    private static void refusedChangesNothing() {
        Document.says(0, "A call that returns an error code changes nothing except that it increments the counter");
        ShorthandOutlines x = fullSystem();
        Checks.refused(x, "setSound(8, 1, 2)", () -> x.setSound(8, 1, 2), -2);
        Checks.refused(x, "setSound(1, 1, 24)", () -> x.setSound(1, 1, 24), -2);
        Checks.refused(x, "setVowels(256)", () -> x.setVowels(256), -2);
        Checks.refused(x, "append(128)", () -> x.append(128), -2);
        Checks.refused(x, "append(97)", () -> x.append(97), -4);
        Checks.refused(x, "addWord(0)", () -> x.addWord(0), -2);
        Checks.refused(x, "addWord(1)", () -> x.addWord(1), -4);
        Checks.refused(x, "removeWord(12)", () -> x.removeWord(12), -2);
        Checks.refused(x, "letters(12)", () -> x.letters(12), -2);
        Checks.refused(x, "frequency(12)", () -> x.frequency(12), -2);
        Checks.refused(x, "strokes(12)", () -> x.strokes(12), -2);
        Checks.refused(x, "stroke(0, 8)", () -> x.stroke(0, 8), -2);
        Checks.refused(x, "cost(12)", () -> x.cost(12), -2);
        Checks.refused(x, "outlines(12)", () -> x.outlines(12), -2);
        Checks.refused(x, "joinCost(24, 0)", () -> x.joinCost(24, 0), -2);
        Checks.refused(x, "setBrief(12, 1)", () -> x.setBrief(12, 1), -2);
        Checks.refused(x, "setBrief(0, 20)", () -> x.setBrief(0, 20), -3);
        Checks.refused(x, "setBrief(0, 21)", () -> x.setBrief(0, 21), -3);
        Checks.refused(x, "clearBrief(12)", () -> x.clearBrief(12), -2);
        Checks.refused(x, "clearBrief(0)", () -> x.clearBrief(0), -3);
        Checks.refused(x, "brief(12)", () -> x.brief(12), -2);
        Checks.refused(x, "gain(12)", () -> x.gain(12), -2);
        Checks.refused(x, "proposedWord(-2)", () -> x.proposedWord(-2), -2);
        Checks.refused(x, "proposedStroke(-1)", () -> x.proposedStroke(-1), -2);
        Checks.refused(x, "write(24)", () -> x.write(24), -2);
        Checks.refused(x, "write(0)", () -> x.write(0), -4);
        Checks.refused(x, "reading(-2)", () -> x.reading(-2), -2);
        Checks.refused(x, "doubt(-1)", () -> x.doubt(-1), -2);
        Checks.refused(x, "errorCount(-6)", () -> x.errorCount(-6), -2);
    }

    // The digest does not show what the saved states hold, so they are brought back here.
    private static void refusedSavesNothing() {
        Document.says(0, "A call that returns an error code changes nothing except that it increments the counter");
        ShorthandOutlines x = fullSystem();
        x.setSound(9, 0, 0);
        x.setVowels(-1);
        x.addWord(1);
        x.removeWord(12);
        x.setBrief(0, 20);
        x.clearBrief(0);
        Checks.due("the word h is taken back: undo()", x.undo(), 4);
        Checks.due("words()", x.words(), 11);
        Checks.due("the removal is taken back: undo()", x.undo(), 3);
        Checks.due("words()", x.words(), 12);
        Checks.due("the brief form is taken back: undo()", x.undo(), 2);
        Checks.due("brief(3)", x.brief(3), -1);
        Checks.due("a word is taken back: undo()", x.undo(), 1);
        Checks.due("words()", x.words(), 11);
    }

    private static void orderOfChecks() {
        Document.says(0, "The checks of a method are made in the order in which its error codes are listed");
        ShorthandOutlines x = fullSystem();
        Checks.refused(x, "append(128) to a full text", () -> x.append(128), -2);
        Checks.refused(x, "write(24) to a full pad", () -> x.write(24), -2);
        Checks.refused(x, "addWord(0) to a full dictionary", () -> x.addWord(0), -2);
        Checks.type(x, "i");
        Checks.refused(x, "addWord(1000) of no word to a full dictionary", () -> x.addWord(1000), -2);
        Checks.refused(x, "addWord(999) of no word to a full dictionary", () -> x.addWord(999), -3);
        x.clearText();
        Checks.refused(x, "addWord(1) of an empty text to a full dictionary", () -> x.addWord(1), -3);
        Checks.refused(x, "setBrief(12, 20), not free", () -> x.setBrief(12, 20), -2);
        Checks.refused(x, "setBrief(-1, 20), not free", () -> x.setBrief(-1, 20), -2);
        ShorthandOutlines y = new ShorthandOutlines();
        Checks.refused(y, "addWord(0) of an empty text", () -> y.addWord(0), -2);
        Checks.refused(y, "clearBrief(0) without words", () -> y.clearBrief(0), -2);
    }

    private static void outOfRange() {
        Document.says(0, "`OUT_OF_RANGE = -2`: An argument is not in its range, or there is no such word or stroke");
        Checks.due("OUT_OF_RANGE", ShorthandOutlines.OUT_OF_RANGE, -2);
        ShorthandOutlines x = Checks.having("b");
        Checks.refused(x, "setVowels(-1)", () -> x.setVowels(-1), ShorthandOutlines.OUT_OF_RANGE);
        Checks.refused(x, "letters(1)", () -> x.letters(1), ShorthandOutlines.OUT_OF_RANGE);
        Checks.refused(x, "stroke(0, 1)", () -> x.stroke(0, 1), ShorthandOutlines.OUT_OF_RANGE);
    }

    private static void notPossible() {
        Document.says(0, "`NOT_POSSIBLE = -3`: The stroke is not free, or the brief form is missing");
        Checks.due("NOT_POSSIBLE", ShorthandOutlines.NOT_POSSIBLE, -3);
        ShorthandOutlines x = Checks.having("b", "cd");
        Checks.refused(x, "setBrief(1, 3)", () -> x.setBrief(1, 3), ShorthandOutlines.NOT_POSSIBLE);
        Checks.refused(x, "clearBrief(1)", () -> x.clearBrief(1), ShorthandOutlines.NOT_POSSIBLE);
        x.clearText();
        Checks.refused(x, "addWord(1)", () -> x.addWord(1), ShorthandOutlines.NOT_POSSIBLE);
    }

    private static void full() {
        Document.says(0, "`FULL = -4`: There is no more room");
        Checks.due("FULL", ShorthandOutlines.FULL, -4);
        ShorthandOutlines x = fullSystem();
        Checks.refused(x, "append(97)", () -> x.append(97), ShorthandOutlines.FULL);
        Checks.refused(x, "addWord(1)", () -> x.addWord(1), ShorthandOutlines.FULL);
        Checks.refused(x, "write(0)", () -> x.write(0), ShorthandOutlines.FULL);
        x.clearText();
        x.clearPad();
        x.removeWord(0);
        Checks.due("room again: append(97)", x.append(97), 1);
        Checks.due("room again: addWord(1)", x.addWord(1), 11);
        Checks.due("room again: write(0)", x.write(0), 1);
    }

    private static void nothingSaved() {
        Document.says(0, "`NOTHING_SAVED = -5`: There is no saved state");
        Checks.due("NOTHING_SAVED", ShorthandOutlines.NOTHING_SAVED, -5);
        ShorthandOutlines x = new ShorthandOutlines();
        Checks.refused(x, "undo()", x::undo, ShorthandOutlines.NOTHING_SAVED);
        x.acceptProposal();
        Checks.due("undo()", x.undo(), 0);
        Checks.refused(x, "undo()", x::undo, ShorthandOutlines.NOTHING_SAVED);
    }

    private static void none() {
        Document.says(0, "`NONE = -1`: There is no such thing");
        Checks.due("NONE", ShorthandOutlines.NONE, -1);
        ShorthandOutlines x = Checks.having("b");
        Checks.quiet(x, "brief(0)", () -> x.brief(0), ShorthandOutlines.NONE);
        Checks.quiet(x, "proposedWord(0)", () -> x.proposedWord(0), ShorthandOutlines.NONE);
        Checks.quiet(x, "proposedStroke(0)", () -> x.proposedStroke(0), ShorthandOutlines.NONE);
        Checks.quiet(x, "reading(0)", () -> x.reading(0), ShorthandOutlines.NONE);
        Checks.quiet(x, "doubt(0)", () -> x.doubt(0), ShorthandOutlines.NONE);
        Checks.refused(x, "its counter: errorCount(-1)", () -> x.errorCount(-1), ShorthandOutlines.OUT_OF_RANGE);
    }
}
