/** Promises 1 to 10: the new object, the sounds and the dictionary. */
public final class SoundsAndWordsTest {
    public static void main(String[] args) {
        newObject();
        setSound();
        setVowels();
        appendAndClearText();
        addWord();
        removeWord();
        wordsLettersFrequency();
        Checks.finish();
    }

    private static void newObject() {
        Checks.part("promise 1");
        ShorthandOutlines x = new ShorthandOutlines();
        Checks.due("words()", x.words(), 0);
        Checks.due("clearPad()", x.clearPad(), 0);
        Checks.due("clearText()", x.clearText(), 0);
        Checks.due("undo()", x.undo(), ShorthandOutlines.NOTHING_SAVED);
        for (int sound = 0; sound < 8; sound++) {
            ShorthandOutlines y = new ShorthandOutlines();
            Checks.add(y, "" + (char) ('a' + sound), 1);
            Checks.due("stroke(0, 0)", y.stroke(0, 0), 3 * sound);
            Checks.due("outlines(0)", y.outlines(0), 1);
            Checks.due("first stroke", y.setSound(sound, 0, -1), 3 * sound);
        }
        Checks.due("setVowels(0)", x.setVowels(0), 1 + 16);
    }

    private static void setSound() {
        Checks.part("promise 2");
        ShorthandOutlines x = new ShorthandOutlines();
        Checks.add(x, "hb", 1);
        Checks.due("setSound(7, 23, 0)", x.setSound(7, 23, 0), 21);
        Checks.due("setSound(7, 0, 23)", x.setSound(7, 0, 23), 23);
        Checks.due("outlines with a second stroke", x.outlines(0), 2);
        Checks.due("setSound(7, 5, -1)", x.setSound(7, 5, -1), 0);
        Checks.due("outlines without it", x.outlines(0), 1);
        Checks.due("stroke(0, 0)", x.stroke(0, 0), 5);
        int[][] refused = {{-1, 0, 0}, {8, 0, 0}, {0, -1, 0}, {0, 24, 0}, {0, 0, -2}, {0, 0, 24},
            {Integer.MIN_VALUE, 0, 0}, {Integer.MAX_VALUE, 0, 0}, {0, Integer.MAX_VALUE, 0},
            {0, Integer.MIN_VALUE, 0}, {0, 0, Integer.MAX_VALUE}, {0, 0, Integer.MIN_VALUE}};
        for (int[] r : refused) {
            Checks.due("setSound(" + r[0] + ", " + r[1] + ", " + r[2] + ")", x.setSound(r[0], r[1], r[2]), -2);
        }
        Checks.due("errorCount(-2)", x.errorCount(-2), refused.length);
        Checks.due("setSound(0, 0, -1)", x.setSound(0, 0, -1), 0);
        Checks.due("a refused call saves nothing: undo()", x.undo(), 4);
        Checks.due("undo()", x.undo(), 3);
        Checks.due("undone: stroke(0, 0)", x.stroke(0, 0), 0);
    }

    private static void setVowels() {
        Checks.part("promise 3");
        ShorthandOutlines x = new ShorthandOutlines();
        Checks.add(x, "abcdefgh", 1);
        Checks.due("strokes(0)", x.strokes(0), 7);
        Checks.due("setVowels(255)", x.setVowels(255), 17);
        Checks.due("strokes(0)", x.strokes(0), 1);
        Checks.due("setVowels(0)", x.setVowels(0), 255);
        Checks.due("strokes(0)", x.strokes(0), 8);
        Checks.due("setVowels(128)", x.setVowels(128), 0);
        Checks.due("strokes(0)", x.strokes(0), 7);
        Checks.due("stroke(0, 6)", x.stroke(0, 6), 18);
        Checks.due("setVowels(-1)", x.setVowels(-1), -2);
        Checks.due("setVowels(256)", x.setVowels(256), -2);
        Checks.due("undo()", x.undo(), 3);
        Checks.due("undone: strokes(0)", x.strokes(0), 8);
    }

    private static void appendAndClearText() {
        Checks.part("promises 4 and 5");
        ShorthandOutlines x = new ShorthandOutlines();
        Checks.due("append(-1)", x.append(-1), -2);
        Checks.due("append(128)", x.append(128), -2);
        Checks.due("append(0)", x.append(0), 1);
        Checks.due("append(127)", x.append(127), 2);
        for (int length = 3; length <= 8; length++) {
            Checks.due("append(97)", x.append(97), length);
        }
        Checks.due("append(97) to 8 bytes", x.append(97), -4);
        Checks.due("the range comes before the room: append(128)", x.append(128), -2);
        Checks.due("errorCount(-2)", x.errorCount(-2), 3);
        Checks.due("errorCount(-4)", x.errorCount(-4), 1);
        Checks.due("clearText()", x.clearText(), 8);
        Checks.due("clearText()", x.clearText(), 0);
        Checks.due("append(98)", x.append(98), 1);
        Checks.due("neither is undoable: undo()", x.undo(), -5);
    }

    private static void addWord() {
        Checks.part("promise 6");
        ShorthandOutlines x = new ShorthandOutlines();
        Checks.due("the range comes first: addWord(0)", x.addWord(0), -2);
        Checks.due("empty text: addWord(1)", x.addWord(1), -3);
        for (String text : new String[] {"`", "i", "aib", "abI", "A", "abcdefg ", "\0"}) {
            Checks.due("addWord(1) of " + text, Checks.add(x, text, 1), -3);
        }
        Checks.type(x, "ah");
        Checks.due("addWord(0)", x.addWord(0), -2);
        Checks.due("addWord(1000)", x.addWord(1000), -2);
        Checks.due("addWord(-5)", x.addWord(-5), -2);
        for (int word = 0; word < 12; word++) {
            Checks.due("addWord", x.addWord(word == 0 ? 1 : 999), word);
        }
        Checks.due("a 13th word", x.addWord(1), -4);
        Checks.due("the range comes before the room", x.addWord(1000), -2);
        Checks.due("the text comes before the room", Checks.add(x, "z", 1), -3);
        Checks.due("the text stays: clearText()", x.clearText(), 1);
        Checks.due("frequency(0)", x.frequency(0), 1);
        Checks.due("frequency(11)", x.frequency(11), 999);
        Checks.due("brief(11)", x.brief(11), -1);
        Checks.due("undo()", x.undo(), 4);
        Checks.due("words()", x.words(), 11);
        x.setBrief(10, 5);
        x.removeWord(10);
        Checks.add(x, "b", 7);
        Checks.due("a new word has no brief form", x.brief(10), -1);
    }

    private static void removeWord() {
        Checks.part("promise 7");
        ShorthandOutlines x = new ShorthandOutlines();
        Checks.due("removeWord(0) of none", x.removeWord(0), -2);
        Checks.add(x, "a", 1);
        Checks.add(x, "bcd", 2);
        Checks.add(x, "hg", 3);
        x.setBrief(2, 9);
        Checks.due("removeWord(-1)", x.removeWord(-1), -2);
        Checks.due("removeWord(3)", x.removeWord(3), -2);
        Checks.due("removeWord(0)", x.removeWord(0), 2);
        Checks.due("letters(0)", x.letters(0), 3);
        Checks.due("frequency(0)", x.frequency(0), 2);
        Checks.due("brief(0)", x.brief(0), -1);
        Checks.due("stroke(0, 2)", x.stroke(0, 2), 9);
        Checks.due("letters(1)", x.letters(1), 2);
        Checks.due("frequency(1)", x.frequency(1), 3);
        Checks.due("brief(1)", x.brief(1), 9);
        Checks.due("stroke(1, 0)", x.stroke(1, 0), 21);
        Checks.due("removeWord(1)", x.removeWord(1), 1);
        Checks.due("removeWord(1)", x.removeWord(1), -2);
        Checks.due("undo()", x.undo(), 4);
        Checks.due("undo()", x.undo(), 3);
        Checks.due("words()", x.words(), 3);
        Checks.due("frequency(0)", x.frequency(0), 1);
        Checks.due("brief(2)", x.brief(2), 9);
        fullDictionary();
    }

    private static void fullDictionary() {
        ShorthandOutlines x = new ShorthandOutlines();
        Checks.type(x, "abcdefgh");
        for (int word = 0; word < 12; word++) {
            x.addWord(word + 1);
        }
        Checks.due("removeWord(11)", x.removeWord(11), 11);
        Checks.due("removeWord(0)", x.removeWord(0), 10);
        for (int word = 0; word < 10; word++) {
            Checks.due("frequency(" + word + ")", x.frequency(word), word + 2);
            Checks.due("letters(" + word + ")", x.letters(word), 8);
        }
        for (int left = 9; left >= 0; left--) {
            Checks.due("removeWord(0)", x.removeWord(0), left);
        }
    }

    private static void wordsLettersFrequency() {
        Checks.part("promises 8, 9 and 10");
        ShorthandOutlines x = new ShorthandOutlines();
        Checks.due("letters(0)", x.letters(0), -2);
        Checks.due("frequency(0)", x.frequency(0), -2);
        Checks.add(x, "abcdefgh", 999);
        Checks.add(x, "eee", 1);
        Checks.due("words()", x.words(), 2);
        Checks.due("letters(0)", x.letters(0), 8);
        Checks.due("vowels are letters: letters(1)", x.letters(1), 3);
        Checks.due("frequency(0)", x.frequency(0), 999);
        Checks.due("frequency(1)", x.frequency(1), 1);
        for (int word : new int[] {-1, 2, Integer.MIN_VALUE, Integer.MAX_VALUE}) {
            Checks.due("letters(" + word + ")", x.letters(word), -2);
            Checks.due("frequency(" + word + ")", x.frequency(word), -2);
        }
        Checks.due("errorCount(-2)", x.errorCount(-2), 10);
    }
}
