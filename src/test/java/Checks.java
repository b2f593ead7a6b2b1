import java.util.function.IntSupplier;

/** Counts and prints the answers that are not as due; every test of the project ends with finish(). */
final class Checks {
    static final int[] NO_STROKES = {-1, 24, Integer.MIN_VALUE, Integer.MAX_VALUE};

    private static int wrong = 0;
    private static String part = "";

    private Checks() {
    }

    static void part(String name) {
        part = name;
    }

    static void due(String call, long got, long want) {
        if (got != want) {
            wrong++;
            System.out.println(part + ": " + call + " answered " + got + ", due is " + want);
        }
    }

    static void holds(String what, boolean held) {
        if (!held) {
            wrong++;
            System.out.println(part + ": does not hold: " + what);
        }
    }

    /**
     * The call answers the error code, the counter of the code goes up by one, and the digest shows
     * no other change. errorCount(0) raises the first counter alone and so tells its weight in the
     * digest; the counters behind it weigh 31 times less each.
     */
    static void refused(ShorthandOutlines x, String call, IntSupplier made, int code) {
        long unraised = x.digest();
        x.errorCount(0);
        long before = x.digest();
        int count = x.errorCount(code);
        due(call, made.getAsInt(), code);
        due("the counter of " + code + " after " + call, x.errorCount(code), count + 1);
        long change = x.digest() - before;
        for (int heavier = -2; heavier > code; heavier--) {
            change *= 31;
        }
        holds(call + " changes nothing but its counter", change == before - unraised);
    }

    /** The call answers as due, is no error, and the digest shows no change at all. */
    static void quiet(ShorthandOutlines x, String call, IntSupplier made, int want) {
        long before = x.digest();
        due(call, made.getAsInt(), want);
        holds(call + " changes nothing", x.digest() == before);
    }

    /** Numbers that are no word's: on both sides of the dictionary, and the ends of int. */
    static int[] noWords(ShorthandOutlines x) {
        return new int[] {-1, x.words(), 12, Integer.MIN_VALUE, Integer.MAX_VALUE};
    }

    /** Empties the text, appends the letters and adds them as a word. */
    static int add(ShorthandOutlines x, String letters, int frequency) {
        type(x, letters);
        return x.addWord(frequency);
    }

    static void type(ShorthandOutlines x, String letters) {
        x.clearText();
        for (int i = 0; i < letters.length(); i++) {
            x.append(letters.charAt(i));
        }
    }

    static void pad(ShorthandOutlines x, int... strokes) {
        x.clearPad();
        for (int stroke : strokes) {
            x.write(stroke);
        }
    }

    /** A new system that has the words, each with the frequency 1. */
    static ShorthandOutlines having(String... words) {
        ShorthandOutlines x = new ShorthandOutlines();
        for (String letters : words) {
            add(x, letters, 1);
        }
        return x;
    }

    /** A new system with the most words that there may be, all equal and with the frequency 1. */
    static ShorthandOutlines fullOf(String letters) {
        ShorthandOutlines x = new ShorthandOutlines();
        type(x, letters);
        for (int word = 0; word < 12; word++) {
            x.addWord(1);
        }
        return x;
    }

    static void finish() {
        System.out.println(wrong == 0 ? "all answers are as due" : wrong + " answers are not as due");
        if (wrong != 0) {
            System.exit(1);
        }
    }
}
