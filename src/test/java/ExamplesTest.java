/** The five Examples of the document, call by call. */
public final class ExamplesTest {
    public static void main(String[] args) {
        secondStroke();
        proposal();
        reading();
        notFree();
        errors();
        Checks.finish();
    }

    private static void secondStroke() {
        Checks.part("example 1");
        ShorthandOutlines x = new ShorthandOutlines();
        Checks.due("clearText()", x.clearText(), 0);
        Checks.due("append(98)", x.append(98), 1);
        Checks.due("append(97)", x.append(97), 2);
        Checks.due("append(100)", x.append(100), 3);
        Checks.due("addWord(10)", x.addWord(10), 0);
        Checks.due("strokes(0)", x.strokes(0), 2);
        Checks.due("stroke(0, 0)", x.stroke(0, 0), 3);
        Checks.due("stroke(0, 1)", x.stroke(0, 1), 9);
        Checks.due("cost(0)", x.cost(0), 2);
        Checks.due("setSound(3, 9, 4)", x.setSound(3, 9, 4), 9);
        Checks.due("stroke(0, 1)", x.stroke(0, 1), 4);
        Checks.due("cost(0)", x.cost(0), 0);
    }

    private static void proposal() {
        Checks.part("example 2");
        ShorthandOutlines x = new ShorthandOutlines();
        Checks.due("clearText()", x.clearText(), 0);
        Checks.due("append(98)", x.append(98), 1);
        Checks.due("append(99)", x.append(99), 2);
        Checks.due("addWord(100)", x.addWord(100), 0);
        Checks.due("clearText()", x.clearText(), 2);
        Checks.due("append(99)", x.append(99), 1);
        Checks.due("append(98)", x.append(98), 2);
        Checks.due("addWord(100)", x.addWord(100), 1);
        Checks.due("gain(0)", x.gain(0), 100);
        Checks.due("proposedWord(-1)", x.proposedWord(-1), 2);
        Checks.due("proposedStroke(0)", x.proposedStroke(0), 0);
        Checks.due("acceptProposal()", x.acceptProposal(), 2);
        Checks.due("brief(1)", x.brief(1), 1);
    }

    private static void reading() {
        Checks.part("example 3");
        ShorthandOutlines x = new ShorthandOutlines();
        Checks.due("clearText()", x.clearText(), 0);
        Checks.due("append(98)", x.append(98), 1);
        Checks.due("append(97)", x.append(97), 2);
        Checks.due("append(100)", x.append(100), 3);
        Checks.due("addWord(10)", x.addWord(10), 0);
        Checks.due("clearPad()", x.clearPad(), 0);
        Checks.due("write(3)", x.write(3), 1);
        Checks.due("write(10)", x.write(10), 2);
        Checks.due("reading(-1)", x.reading(-1), 1);
        Checks.due("reading(0)", x.reading(0), 0);
        Checks.due("doubt(0)", x.doubt(0), 1);
        Checks.due("doubt(1)", x.doubt(1), -1);
    }

    private static void notFree() {
        Checks.part("example 4");
        ShorthandOutlines x = new ShorthandOutlines();
        Checks.due("clearText()", x.clearText(), 0);
        Checks.due("append(98)", x.append(98), 1);
        Checks.due("addWord(1)", x.addWord(1), 0);
        Checks.due("clearText()", x.clearText(), 1);
        Checks.due("append(99)", x.append(99), 1);
        Checks.due("append(100)", x.append(100), 2);
        Checks.due("addWord(5)", x.addWord(5), 1);
        Checks.due("setBrief(1, 3)", x.setBrief(1, 3), -3);
        Checks.due("setBrief(1, 4)", x.setBrief(1, 4), -1);
        Checks.due("setBrief(1, 24)", x.setBrief(1, 24), -2);
    }

    private static void errors() {
        Checks.part("example 5");
        ShorthandOutlines x = new ShorthandOutlines();
        Checks.due("addWord(5)", x.addWord(5), -3);
        Checks.due("clearBrief(0)", x.clearBrief(0), -2);
        Checks.due("undo()", x.undo(), -5);
    }
}
