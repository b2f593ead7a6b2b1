/** Counts and prints the answers that are not as due; every test of the project ends with finish(). */
final class Checks {
    private static int wrong = 0;
    private static String part = "";

    private Checks() {
    }

    static void part(String name) {
        part = name;
    }

    static void due(String call, long got, long want) {
        if (got != want) {
            wrong++;
            System.out.println(part + ": " + call + " answered " + got + ", due is " + want);
        }
    }

    static void holds(String what, boolean held) {
        if (!held) {
            wrong++;
            System.out.println(part + ": does not hold: " + what);
        }
    }

    /** Empties the text, appends the letters and adds them as a word. */
    static int add(ShorthandOutlines x, String letters, int frequency) {
        type(x, letters);
        return x.addWord(frequency);
    }

    static void type(ShorthandOutlines x, String letters) {
        x.clearText();
        for (int i = 0; i < letters.length(); i++) {
            x.append(letters.charAt(i));
        }
    }

    static void pad(ShorthandOutlines x, int... strokes) {
        x.clearPad();
        for (int stroke : strokes) {
            x.write(stroke);
        }
    }

    static void finish() {
        System.out.println(wrong == 0 ? "all answers are as due" : wrong + " answers are not as due");
        if (wrong != 0) {
            System.exit(1);
        }
    }
}
