/** Promises 27 to 29: undo, error counters and the digest. */
public final class UndoAndDigestTest {
    public static void main(String[] args) {
        atMostFive();
        whatIsKept();
        wordsComeBack();
        savedWithoutChange();
        errorCount();
        digestOfNewObject();
        digestOfAll();
        Checks.finish();
    }

    private static void atMostFive() {
        Checks.part("promise 27, five states");
        ShorthandOutlines x = new ShorthandOutlines();
        Checks.due("undo()", x.undo(), -5);
        for (int vowels = 1; vowels <= 7; vowels++) {
            x.setVowels(vowels);
        }
        for (int left = 4; left >= 0; left--) {
            Checks.due("undo()", x.undo(), left);
        }
        Checks.due("the two oldest are dropped: undo()", x.undo(), -5);
        Checks.due("setVowels(9)", x.setVowels(9), 2);
        Checks.due("setVowels(10)", x.setVowels(10), 9);
        Checks.due("undo()", x.undo(), 1);
        Checks.due("setVowels(11)", x.setVowels(11), 9);
        Checks.due("errorCount(-5)", x.errorCount(-5), 2);
    }

    private static void whatIsKept() {
        Checks.part("promise 27, what is saved");
        ShorthandOutlines x = new ShorthandOutlines();
        Checks.add(x, "bc", 5);
        Checks.pad(x, 3, 6);
        x.setSound(1, 9, 10);
        x.setSound(2, 11, -1);
        x.setVowels(4);
        x.setBrief(0, 7);
        x.clearText();
        x.clearPad();
        x.write(1);
        x.append(-1);
        Checks.due("undo()", x.undo(), 4);
        Checks.due("brief(0)", x.brief(0), -1);
        Checks.due("strokes(0)", x.strokes(0), 1);
        Checks.due("undo()", x.undo(), 3);
        Checks.due("strokes(0)", x.strokes(0), 2);
        Checks.due("stroke(0, 1)", x.stroke(0, 1), 11);
        Checks.due("undo()", x.undo(), 2);
        Checks.due("stroke(0, 1)", x.stroke(0, 1), 6);
        Checks.due("outlines(0)", x.outlines(0), 2);
        Checks.due("undo()", x.undo(), 1);
        Checks.due("stroke(0, 0)", x.stroke(0, 0), 3);
        Checks.due("outlines(0)", x.outlines(0), 1);
        Checks.due("undo()", x.undo(), 0);
        Checks.due("words()", x.words(), 0);
        Checks.due("the text is not restored", x.clearText(), 0);
        Checks.due("the pad is not restored", x.clearPad(), 1);
        Checks.due("the counters are not restored", x.errorCount(-2), 1);
    }

    private static void wordsComeBack() {
        Checks.part("promise 27, removed words");
        ShorthandOutlines x = new ShorthandOutlines();
        Checks.add(x, "bcd", 5);
        Checks.add(x, "fghf", 6);
        Checks.type(x, "cdcdcdcd");
        for (int word = 2; word < 12; word++) {
            x.addWord(word);
        }
        Checks.due("removeWord(0)", x.removeWord(0), 11);
        Checks.due("removeWord(0)", x.removeWord(0), 10);
        Checks.due("undo()", x.undo(), 4);
        Checks.due("undo()", x.undo(), 3);
        Checks.due("letters(0)", x.letters(0), 3);
        Checks.due("letters(1)", x.letters(1), 4);
        Checks.due("letters(11)", x.letters(11), 8);
        Checks.due("frequency(1)", x.frequency(1), 6);
        Checks.due("stroke(0, 0)", x.stroke(0, 0), 3);
        Checks.due("stroke(0, 2)", x.stroke(0, 2), 9);
        Checks.due("stroke(1, 2)", x.stroke(1, 2), 21);
        Checks.due("stroke(11, 7)", x.stroke(11, 7), 9);
    }

    private static void savedWithoutChange() {
        Checks.part("promise 27, calls without a change");
        ShorthandOutlines x = new ShorthandOutlines();
        x.setVowels(17);
        x.setSound(0, 0, -1);
        x.acceptProposal();
        Checks.due("undo()", x.undo(), 2);
        Checks.due("undo()", x.undo(), 1);
        Checks.due("undo()", x.undo(), 0);
        Checks.due("undo()", x.undo(), -5);
        x.addWord(1);
        x.setBrief(0, 0);
        x.clearBrief(0);
        x.removeWord(0);
        Checks.due("refused calls save nothing: undo()", x.undo(), -5);
    }

    private static void errorCount() {
        Checks.part("promise 28");
        ShorthandOutlines x = new ShorthandOutlines();
        for (int code = -5; code <= -2; code++) {
            Checks.due("errorCount(" + code + ")", x.errorCount(code), 0);
        }
        int outside = 0;
        for (int code : new int[] {-1, -6, 0, 5, Integer.MIN_VALUE, Integer.MAX_VALUE}) {
            Checks.due("errorCount(" + code + ")", x.errorCount(code), -2);
            outside++;
            Checks.due("errorCount(-2)", x.errorCount(-2), outside);
        }
        x.undo();
        x.undo();
        x.addWord(1);
        Checks.type(x, "abcdefgh");
        x.append(97);
        x.append(97);
        x.append(97);
        Checks.due("errorCount(-2)", x.errorCount(-2), outside);
        Checks.due("errorCount(-3)", x.errorCount(-3), 1);
        Checks.due("errorCount(-4)", x.errorCount(-4), 3);
        Checks.due("errorCount(-5)", x.errorCount(-5), 2);
    }

    private static void digestOfNewObject() {
        Checks.part("promise 29, a new object");
        long h = hash(2707, 0, 0, 0, 0, 17, 0, -1, 3, -1, 6, -1, 9, -1, 12, -1, 15, -1, 18, -1, 21, -1,
            0, 0, 0, 0, 0, 0);
        ShorthandOutlines x = new ShorthandOutlines();
        Checks.due("digest()", x.digest(), h);
        Checks.due("it changes nothing: digest()", x.digest(), h);
    }

    private static void digestOfAll() {
        Checks.part("promise 29, every value");
        ShorthandOutlines x = new ShorthandOutlines();
        x.undo();
        x.append(128);
        x.append(128);
        x.addWord(9);
        x.clearBrief(0);
        Checks.add(x, "bad", 10);
        Checks.add(x, "h", 20);
        Checks.add(x, "cb", 30);
        x.setBrief(0, 22);
        x.setSound(3, 9, 4);
        Checks.pad(x, 21);
        long h = hash(2707, 3, 1, 0, 1, 17, 0, -1, 3, -1, 6, -1, 9, 4, 12, -1, 15, -1, 18, -1, 21, -1);
        h = hash(h, 3, 10, 22, 0, 2, 3, 4, 20, -1, 0, 1, 21, 30, -1, 1, 2, 6, 3);
        h = hash(h, 1, 2, 0);
        h = hash(h, 1, 21);
        h = hash(h, 2, 1, 0, 0, 1);
        h = hash(h, 2, 5);
        Checks.due("digest()", x.digest(), h);
    }

    private static long hash(long start, int... values) {
        long h = start;
        for (int value : values) {
            h = 31 * h + value;
        }
        return h;
    }
}
