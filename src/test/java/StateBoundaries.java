import java.math.BigInteger;
import java.util.ArrayList;
import java.util.List;

/** Promises 27 to 29: undo, error counters and the digest. */
final class StateBoundaries {
    private static final int[] FIRST_SOUNDS = {17, 0, -1, 3, -1, 6, -1, 9, -1, 12, -1, 15, -1, 18, -1, 21, -1};

    private StateBoundaries() {
    }

    static void run() {
        restores();
        remaining();
        nothingLeft();
        countsErrors();
        rangeOfCode();
        outsideIsCounted();
        hashOfNewObject();
        counters();
        vowels();
        sounds();
        words();
        fullDictionary();
        proposal();
        pad();
        readings();
        textLength();
        savedStates();
        overflow();
    }

    private static void restores() {
        Document.says(27, "Restores the most recently saved state and removes it from the saved states");
        ShorthandOutlines x = Checks.having("a");
        x.setSound(0, 1, -1);
        x.setSound(0, 2, -1);
        Checks.due("undo()", x.undo(), 2);
        Checks.due("the most recent: stroke(0, 0)", x.stroke(0, 0), 1);
        Checks.due("undo is not undone: undo()", x.undo(), 1);
        Checks.due("stroke(0, 0)", x.stroke(0, 0), 0);
        x.setSound(0, 3, -1);
        Checks.due("a state in the place of the removed ones: undo()", x.undo(), 1);
        Checks.due("stroke(0, 0)", x.stroke(0, 0), 0);
        Checks.due("back to the empty dictionary: undo()", x.undo(), 0);
        Checks.due("words()", x.words(), 0);
    }

    private static void remaining() {
        Document.says(27, "Returns the number of saved states that remain");
        for (int changes = 1; changes <= 7; changes++) {
            ShorthandOutlines x = new ShorthandOutlines();
            for (int i = 1; i <= changes; i++) {
                x.setVowels(i);
            }
            for (int left = Math.min(changes, 5) - 1; left >= 0; left--) {
                Checks.due("after " + changes + " changes: undo()", x.undo(), left);
            }
            Checks.due("after " + changes + " changes: undo()", x.undo(), -5);
            Checks.due("the state that is left", x.setVowels(0), changes <= 5 ? 17 : changes - 5);
        }
    }

    private static void nothingLeft() {
        Document.says(27, "NOTHING_SAVED if there is none");
        ShorthandOutlines x = new ShorthandOutlines();
        Checks.refused(x, "of a new object: undo()", x::undo, -5);
        Checks.refused(x, "once more: undo()", x::undo, -5);
        Checks.type(x, "bc");
        Checks.pad(x, 1, 2);
        x.clearText();
        x.clearPad();
        Checks.refused(x, "after text and pad: undo()", x::undo, -5);
        x.setVowels(300);
        x.addWord(1);
        x.acceptProposal();
        Checks.due("after one change: undo()", x.undo(), 0);
        Checks.refused(x, "with all taken back: undo()", x::undo, -5);
        Checks.due("the object goes on: setVowels(0)", x.setVowels(0), 17);
        Checks.due("undo()", x.undo(), 0);
    }

    private static void countsErrors() {
        Document.says(28, "Returns how often an error code has been returned", "Returns the counter of the code");
        ShorthandOutlines x = Checks.having("bc");
        for (int code = -5; code <= -2; code++) {
            int asked = code;
            Checks.quiet(x, "none yet: errorCount(" + code + ")", () -> x.errorCount(asked), 0);
        }
        x.undo();
        for (int times = 1; times <= 4; times++) {
            x.undo();
        }
        Checks.type(x, "abcdefgh");
        for (int times = 1; times <= 3; times++) {
            x.append('a');
        }
        x.clearText();
        x.addWord(1);
        x.addWord(1);
        x.letters(0);
        for (int code = -5; code <= -2; code++) {
            int asked = code;
            Checks.quiet(x, "errorCount(" + code + ")", () -> x.errorCount(asked), -1 - code);
        }
    }

    private static void rangeOfCode() {
        Document.says(28, "`code`: an error code, -5 to -2");
        ShorthandOutlines x = new ShorthandOutlines();
        Checks.quiet(x, "errorCount(-2)", () -> x.errorCount(-2), 0);
        Checks.quiet(x, "errorCount(-5)", () -> x.errorCount(-5), 0);
        for (int code : new int[] {-1, -6, 0, 2, 5, Integer.MIN_VALUE, Integer.MAX_VALUE}) {
            Checks.refused(x, "errorCount(" + code + ")", () -> x.errorCount(code), -2);
        }
    }

    private static void outsideIsCounted() {
        Document.says(28, "OUT_OF_RANGE if code is out of range (this increments the counter of OUT_OF_RANGE)");
        ShorthandOutlines x = new ShorthandOutlines();
        Checks.due("errorCount(-1)", x.errorCount(-1), -2);
        Checks.due("errorCount(-2)", x.errorCount(-2), 1);
        Checks.due("errorCount(-6)", x.errorCount(-6), -2);
        Checks.due("errorCount(-2)", x.errorCount(-2), 2);
        Checks.due("a question in range is not counted: errorCount(-2)", x.errorCount(-2), 2);
        for (int code = -5; code <= -3; code++) {
            Checks.due("the other counters: errorCount(" + code + ")", x.errorCount(code), 0);
        }
    }

    private static void hashOfNewObject() {
        Document.says(29, "Returns a hash of the state");
        ShorthandOutlines x = new ShorthandOutlines();
        Checks.due("digest()", x.digest(), new Values().errors(0, 0, 0, 0).firstSounds().add(0, 0, 0, 0, 0, 0).hash());
        Checks.due("it is no change: digest()", x.digest(), new ShorthandOutlines().digest());
    }

    private static void counters() {
        Document.says(29, "Start with h = 2707 and, for each of the following values v, set h = 31 * h + v");
        ShorthandOutlines x = new ShorthandOutlines();
        x.append(128);
        x.addWord(1);
        x.addWord(1);
        Checks.type(x, "aaaaaaaa");
        for (int i = 0; i < 3; i++) {
            x.append('a');
        }
        for (int i = 0; i < 4; i++) {
            x.undo();
        }
        Checks.due("digest()", x.digest(), new Values().errors(1, 2, 3, 4).firstSounds().add(0, 0, 0, 0, 8, 0).hash());
    }

    private static void vowels() {
        Document.says(29, "the set of vowels");
        for (int vowels : new int[] {0, 255}) {
            ShorthandOutlines x = new ShorthandOutlines();
            x.setVowels(vowels);
            long due = new Values().errors(0, 0, 0, 0).firstSounds().with(4, vowels).add(0, 0, 0, 0, 0, 1).hash();
            Checks.due("digest() with the set " + vowels, x.digest(), due);
        }
    }

    private static void sounds() {
        Document.says(29, "for each sound its first stroke and its second stroke (NONE if it has none)");
        ShorthandOutlines x = new ShorthandOutlines();
        x.setSound(0, 23, 0);
        x.setSound(7, 0, 23);
        x.setSound(3, 5, 5);
        x.setSound(3, 5, -1);
        Values values = new Values().errors(0, 0, 0, 0);
        values.add(17, 23, 0, 3, -1, 6, -1, 5, -1, 12, -1, 15, -1, 18, -1, 0, 23);
        Checks.due("digest()", x.digest(), values.add(0, 0, 0, 0, 0, 4).hash());
    }

    private static void words() {
        Document.says(29, "for each word its frequency, its brief form (NONE if it has none), the cost and the number");
        ShorthandOutlines x = new ShorthandOutlines();
        Checks.add(x, "b", 999);
        Checks.add(x, "hbcdfgha", 1);
        x.setBrief(1, 0);
        Values values = new Values().errors(0, 0, 0, 0).firstSounds().add(2);
        values.add(999, -1, 0, 1, 3);
        values.add(1, 0, 2 + 1 + 1 + 2 + 1 + 1, 7, 21, 3, 6, 9, 15, 18, 21);
        Checks.due("digest()", x.digest(), values.add(0, 0, 0, 8, 3).hash());
    }

    private static void fullDictionary() {
        Document.says(29, "the number of words");
        ShorthandOutlines x = Checks.fullOf("a");
        Values values = new Values().errors(0, 0, 0, 0).firstSounds().add(12);
        for (int word = 0; word < 12; word++) {
            values.add(1, -1, 0, 1, 0);
        }
        Checks.due("digest()", x.digest(), values.add(0, 0, 0, 1, 5).hash());
    }

    private static void proposal() {
        Document.says(29, "the number of words in the proposal and, for each of them, the word and the stroke");
        ShorthandOutlines x = Checks.fullOf("bc");
        Values values = new Values().errors(0, 0, 0, 0).firstSounds().add(12);
        for (int word = 0; word < 12; word++) {
            values.add(1, -1, 1, 2, 3, 6);
        }
        values.add(12);
        for (int word = 0; word < 12; word++) {
            values.add(word, word);
        }
        Checks.due("digest()", x.digest(), values.add(0, 0, 2, 5).hash());
    }

    private static void pad() {
        Document.says(29, "the number of strokes on the pad and these strokes");
        ShorthandOutlines x = new ShorthandOutlines();
        Checks.pad(x, 23, 0, 1, 2, 3, 4, 5, 22);
        Values values = new Values().errors(0, 0, 0, 0).firstSounds().add(0, 0, 8, 23, 0, 1, 2, 3, 4, 5, 22);
        Checks.due("a full pad: digest()", x.digest(), values.add(0, 0, 0).hash());
        x.clearPad();
        Checks.due("emptied: digest()", x.digest(), new ShorthandOutlines().digest());
    }

    private static void readings() {
        Document.says(29, "the number of readings and, for each reading, the word and the doubt");
        ShorthandOutlines x = Checks.fullOf("b");
        x.write(4);
        Values values = new Values().errors(0, 0, 0, 0).firstSounds().add(12);
        for (int word = 0; word < 12; word++) {
            values.add(1, -1, 0, 1, 3);
        }
        values.add(0, 1, 4, 12);
        for (int word = 0; word < 12; word++) {
            values.add(word, 1);
        }
        Checks.due("digest()", x.digest(), values.add(1, 5).hash());
    }

    private static void textLength() {
        Document.says(29, "the length of the input text");
        ShorthandOutlines x = new ShorthandOutlines();
        for (int length = 0; length <= 8; length++) {
            Checks.type(x, "iiiiiiii".substring(0, length));
            long due = new Values().errors(0, 0, 0, 0).firstSounds().add(0, 0, 0, 0, length, 0).hash();
            Checks.due("digest() with " + length + " bytes", x.digest(), due);
            Checks.type(x, "aaaaaaaa".substring(0, length));
            Checks.due("the bytes do not count: digest()", x.digest(), due);
        }
    }

    private static void savedStates() {
        Document.says(29, "the number of saved states");
        ShorthandOutlines x = new ShorthandOutlines();
        for (int changes = 0; changes <= 7; changes++) {
            int saved = Math.min(changes, 5);
            long due = new Values().errors(0, 0, 0, 0).firstSounds().add(0, 0, 0, 0, 0, saved).hash();
            Checks.due("digest() after " + changes + " changes", x.digest(), due);
            x.acceptProposal();
        }
        for (int left = 4; left >= 0; left--) {
            x.undo();
            long due = new Values().errors(0, 0, 0, 0).firstSounds().add(0, 0, 0, 0, 0, left).hash();
            Checks.due("digest() with " + left + " left", x.digest(), due);
        }
    }

    private static void overflow() {
        Document.says(29, "Returns the hash, with the overflow of long arithmetic ignored");
        ShorthandOutlines x = Checks.fullOf("hbhbhbhb");
        Values values = new Values().errors(0, 0, 0, 0).firstSounds().add(12);
        for (int word = 0; word < 12; word++) {
            values.add(1, -1, 14, 8, 21, 3, 21, 3, 21, 3, 21, 3);
        }
        values.add(12);
        for (int word = 0; word < 12; word++) {
            values.add(word, word);
        }
        Checks.pad(x, 21, 3, 21, 3, 21, 3, 21, 0);
        values.add(8, 21, 3, 21, 3, 21, 3, 21, 0, 12);
        for (int word = 0; word < 12; word++) {
            values.add(word, 1);
        }
        values.add(8, 5);
        Checks.holds("the exact hash is longer than a long", values.exact().bitLength() > 1000);
        Checks.due("digest()", x.digest(), values.hash());
    }

    /** The values of a digest, hashed without overflow and cut to a long at the end. */
    private static final class Values {
        private final List<Integer> all = new ArrayList<>();

        Values errors(int outOfRange, int notPossible, int full, int nothingSaved) {
            return add(outOfRange, notPossible, full, nothingSaved);
        }

        Values firstSounds() {
            return add(FIRST_SOUNDS);
        }

        Values add(int... values) {
            for (int value : values) {
                all.add(value);
            }
            return this;
        }

        Values with(int place, int value) {
            all.set(place, value);
            return this;
        }

        BigInteger exact() {
            BigInteger h = BigInteger.valueOf(2707);
            for (int value : all) {
                h = h.multiply(BigInteger.valueOf(31)).add(BigInteger.valueOf(value));
            }
            return h;
        }

        long hash() {
            return exact().longValue();
        }
    }
}
