/** Promises 1 to 10: the new object, the sounds, the text and the dictionary. */
final class WordBoundaries {
    private WordBoundaries() {
    }

    static void run() {
        newObject();
        objectsShareNothing();
        setsStrokes();
        setSoundUndoable();
        rangeOfSound();
        rangeOfFirst();
        rangeOfSecond();
        previousFirst();
        severalArgumentsOut();
        setsVowels();
        setVowelsUndoable();
        rangeOfVowels();
        appends();
        rangeOfByte();
        fullText();
        empties();
        addsWord();
        textStays();
        addWordUndoable();
        rangeOfFrequency();
        emptyText();
        otherBytes();
        fullDictionary();
        removes();
        movesDown();
        removeWordUndoable();
        remaining();
        noWordToRemove();
        countsWords();
        countsLetters();
        tellsFrequency();
    }

    private static void newObject() {
        Document.says(1, "an empty dictionary, an empty pad and an empty input text");
        ShorthandOutlines x = new ShorthandOutlines();
        for (int code = -5; code <= -2; code++) {
            Checks.due("errorCount(" + code + ")", x.errorCount(code), 0);
        }
        Checks.due("words()", x.words(), 0);
        Checks.due("proposedWord(-1)", x.proposedWord(-1), 0);
        Checks.due("reading(-1)", x.reading(-1), 0);
        Checks.due("clearPad()", x.clearPad(), 0);
        Checks.due("clearText()", x.clearText(), 0);
        Checks.refused(x, "letters(0)", () -> x.letters(0), -2);
        Checks.refused(x, "undo()", x::undo, -5);
        for (int sound = 0; sound < 8; sound++) {
            Checks.due("the first stroke of sound " + sound, x.setSound(sound, 23, -1), 3 * sound);
        }
        Checks.due("the vowels", x.setVowels(0), 17);
    }

    private static void objectsShareNothing() {
        Document.says(1, "Creates a system with the initial sounds described above");
        long fresh = new ShorthandOutlines().digest();
        ShorthandOutlines x = Checks.fullOf("abcdefgh");
        x.setSound(0, 23, 22);
        x.setVowels(255);
        x.write(0);
        x.append(-1);
        Checks.due("digest() of another new object", new ShorthandOutlines().digest(), fresh);
    }

    private static void setsStrokes() {
        Document.says(2, "Sets the strokes of a sound");
        ShorthandOutlines x = Checks.having("abcdefgh");
        x.setVowels(0);
        for (int sound = 0; sound < 8; sound++) {
            x.setSound(sound, 23 - sound, -1);
            Checks.due("the sound: stroke(0, " + sound + ")", x.stroke(0, sound), 23 - sound);
            if (sound < 7) {
                Checks.due("the next one not", x.stroke(0, sound + 1), 3 * (sound + 1));
            }
        }
    }

    private static void setSoundUndoable() {
        Document.says(2, "Undoable");
        ShorthandOutlines x = Checks.having("h");
        x.setSound(7, 1, 2);
        x.setSound(7, 5, -1);
        Checks.due("undo()", x.undo(), 2);
        Checks.due("stroke(0, 0)", x.stroke(0, 0), 1);
        Checks.due("outlines(0)", x.outlines(0), 2);
        Checks.due("undo()", x.undo(), 1);
        Checks.due("stroke(0, 0)", x.stroke(0, 0), 21);
        Checks.due("outlines(0)", x.outlines(0), 1);
    }

    private static void rangeOfSound() {
        Document.says(2, "`sound`: 0 to 7");
        ShorthandOutlines x = new ShorthandOutlines();
        Checks.due("setSound(0, 1, 2)", x.setSound(0, 1, 2), 0);
        Checks.due("setSound(7, 1, 2)", x.setSound(7, 1, 2), 21);
        for (int sound : new int[] {-1, 8, Integer.MIN_VALUE, Integer.MAX_VALUE}) {
            Checks.refused(x, "setSound(" + sound + ", 1, 2)", () -> x.setSound(sound, 1, 2), -2);
        }
    }

    private static void rangeOfFirst() {
        Document.says(2, "`first`: code of the first stroke, 0 to 23");
        ShorthandOutlines x = new ShorthandOutlines();
        Checks.due("setSound(3, 0, 2)", x.setSound(3, 0, 2), 9);
        Checks.due("setSound(3, 23, 2)", x.setSound(3, 23, 2), 0);
        for (int first : Checks.NO_STROKES) {
            Checks.refused(x, "setSound(3, " + first + ", 2)", () -> x.setSound(3, first, 2), -2);
        }
        Checks.due("the last that was set", x.setSound(3, 1, 2), 23);
    }

    private static void rangeOfSecond() {
        Document.says(2, "`second`: code of the second stroke, 0 to 23, or -1 for none");
        ShorthandOutlines x = Checks.having("d");
        Checks.due("setSound(3, 1, 0)", x.setSound(3, 1, 0), 9);
        Checks.due("outlines(0)", x.outlines(0), 2);
        Checks.due("setSound(3, 1, -1)", x.setSound(3, 1, -1), 1);
        Checks.due("outlines(0)", x.outlines(0), 1);
        Checks.due("setSound(3, 1, 23)", x.setSound(3, 1, 23), 1);
        Checks.due("outlines(0)", x.outlines(0), 2);
        for (int second : new int[] {-2, 24, Integer.MIN_VALUE, Integer.MAX_VALUE}) {
            Checks.refused(x, "setSound(3, 1, " + second + ")", () -> x.setSound(3, 1, second), -2);
        }
        Checks.due("outlines(0)", x.outlines(0), 2);
    }

    private static void previousFirst() {
        Document.says(2, "Returns the code of the previous first stroke");
        ShorthandOutlines x = new ShorthandOutlines();
        Checks.due("setSound(1, 23, 0)", x.setSound(1, 23, 0), 3);
        Checks.due("not the second: setSound(1, 0, 5)", x.setSound(1, 0, 5), 23);
        Checks.due("setSound(1, 0, -1)", x.setSound(1, 0, -1), 0);
    }

    private static void severalArgumentsOut() {
        Document.says(2, "OUT_OF_RANGE if an argument is out of range");
        ShorthandOutlines x = new ShorthandOutlines();
        Checks.refused(x, "all three: setSound(8, 24, 24)", () -> x.setSound(8, 24, 24), -2);
        Checks.refused(x, "all three: setSound(-1, -1, -2)", () -> x.setSound(-1, -1, -2), -2);
        Checks.refused(x, "nothing was saved: undo()", x::undo, -5);
    }

    private static void setsVowels() {
        Document.says(3, "Sets which sounds are vowels", "`vowels`: a bit set of sounds, 0 to 255; bit s stands for sound s");
        for (int sound = 0; sound < 8; sound++) {
            ShorthandOutlines x = Checks.having("a" + (char) ('a' + sound));
            x.setVowels(1 << sound);
            Checks.due("bit " + sound + ": strokes(0)", x.strokes(0), 1);
            x.setVowels(255 - (1 << sound));
            Checks.due("all bits but " + sound + ": strokes(0)", x.strokes(0), 2);
        }
    }

    private static void setVowelsUndoable() {
        Document.says(3, "Undoable");
        ShorthandOutlines x = new ShorthandOutlines();
        x.setVowels(255);
        x.setVowels(0);
        Checks.due("undo()", x.undo(), 1);
        Checks.due("undo()", x.undo(), 0);
        Checks.due("setVowels(1)", x.setVowels(1), 17);
    }

    private static void rangeOfVowels() {
        Document.says(3, "OUT_OF_RANGE if vowels is out of range", "Returns the previous set");
        ShorthandOutlines x = new ShorthandOutlines();
        Checks.due("setVowels(0)", x.setVowels(0), 17);
        Checks.due("setVowels(255)", x.setVowels(255), 0);
        for (int vowels : new int[] {-1, 256, Integer.MIN_VALUE, Integer.MAX_VALUE}) {
            Checks.refused(x, "setVowels(" + vowels + ")", () -> x.setVowels(vowels), -2);
        }
        Checks.due("setVowels(255)", x.setVowels(255), 255);
    }

    private static void appends() {
        Document.says(4, "Appends a byte to the input text", "Returns the new length of the text");
        ShorthandOutlines x = new ShorthandOutlines();
        for (int length = 1; length <= 8; length++) {
            Checks.due("append", x.append('a' + length - 1), length);
        }
        x.addWord(1);
        x.setVowels(0);
        Checks.due("the first byte is in front: stroke(0, 0)", x.stroke(0, 0), 0);
        Checks.due("the last byte is at the end: stroke(0, 7)", x.stroke(0, 7), 21);
    }

    private static void rangeOfByte() {
        Document.says(4, "OUT_OF_RANGE if value is out of range", "`value`: the byte, 0 to 127");
        ShorthandOutlines x = new ShorthandOutlines();
        Checks.due("append(0)", x.append(0), 1);
        Checks.due("append(127)", x.append(127), 2);
        for (int value : new int[] {-1, 128, 'a' + 256, Integer.MIN_VALUE, Integer.MAX_VALUE}) {
            Checks.refused(x, "append(" + value + ")", () -> x.append(value), -2);
        }
        Checks.due("clearText()", x.clearText(), 2);
    }

    private static void fullText() {
        Document.says(4, "FULL if the text has 8 bytes");
        ShorthandOutlines x = new ShorthandOutlines();
        Checks.type(x, "bcdfghb");
        Checks.due("with 7 bytes: append(99)", x.append(99), 8);
        Checks.refused(x, "with 8 bytes: append(97)", () -> x.append(97), -4);
        Checks.refused(x, "with 8 bytes: append(0)", () -> x.append(0), -4);
        x.addWord(1);
        Checks.due("no byte has changed: stroke(0, 7)", x.stroke(0, 7), 6);
        Checks.due("stroke(0, 0)", x.stroke(0, 0), 3);
        x.clearText();
        Checks.due("room again: append(97)", x.append(97), 1);
    }

    private static void empties() {
        Document.says(5, "Empties the input text", "Returns the length that it had");
        ShorthandOutlines x = new ShorthandOutlines();
        Checks.quiet(x, "of an empty text: clearText()", x::clearText, 0);
        Checks.type(x, "bcdfghbc");
        Checks.due("of a full text: clearText()", x.clearText(), 8);
        Checks.due("clearText()", x.clearText(), 0);
        Checks.refused(x, "no word is left: addWord(1)", () -> x.addWord(1), -3);
        x.append('h');
        x.addWord(1);
        Checks.due("nothing of the old text: letters(0)", x.letters(0), 1);
        Checks.due("stroke(0, 0)", x.stroke(0, 0), 21);
    }

    private static void addsWord() {
        Document.says(6, "Adds the input text to the dictionary as a word", "Returns the number of the word");
        ShorthandOutlines x = new ShorthandOutlines();
        for (int word = 0; word < 12; word++) {
            Checks.due("addWord", Checks.add(x, "abcdefgh".substring(word % 8), word + 1), word);
        }
        for (int word = 0; word < 12; word++) {
            Checks.due("letters(" + word + ")", x.letters(word), 8 - word % 8);
            Checks.due("stroke(" + word + ", 0)", x.stroke(word, 0), 3 * (word % 8));
            Checks.due("brief(" + word + ")", x.brief(word), -1);
        }
        ShorthandOutlines y = Checks.having("bc");
        y.setBrief(0, 0);
        y.removeWord(0);
        Checks.due("in an old word's place", Checks.add(y, "d", 1), 0);
        Checks.due("no brief form of the old word: brief(0)", y.brief(0), -1);
    }

    private static void textStays() {
        Document.says(6, "The text stays as it is");
        ShorthandOutlines x = new ShorthandOutlines();
        Checks.type(x, "bc");
        Checks.due("addWord(1)", x.addWord(1), 0);
        Checks.due("once more: addWord(2)", x.addWord(2), 1);
        Checks.due("append(100)", x.append(100), 3);
        Checks.due("the word is not the text: letters(1)", x.letters(1), 2);
        Checks.due("clearText()", x.clearText(), 3);
        Checks.due("letters(0)", x.letters(0), 2);
    }

    private static void addWordUndoable() {
        Document.says(6, "Undoable");
        ShorthandOutlines x = Checks.fullOf("bc");
        Checks.due("the 12th word goes: undo()", x.undo(), 4);
        Checks.due("words()", x.words(), 11);
        Checks.due("its number is given again: addWord(9)", x.addWord(9), 11);
        Checks.due("frequency(11)", x.frequency(11), 9);
    }

    private static void rangeOfFrequency() {
        Document.says(6, "OUT_OF_RANGE if frequency is out of range", "`frequency`: 1 to 999");
        ShorthandOutlines x = Checks.having("b");
        Checks.due("addWord(1)", x.addWord(1), 1);
        Checks.due("addWord(999)", x.addWord(999), 2);
        for (int frequency : new int[] {0, 1000, -1, Integer.MIN_VALUE, Integer.MAX_VALUE}) {
            Checks.refused(x, "addWord(" + frequency + ")", () -> x.addWord(frequency), -2);
        }
        Checks.due("frequency(1)", x.frequency(1), 1);
        Checks.due("frequency(2)", x.frequency(2), 999);
    }

    private static void emptyText() {
        Document.says(6, "NOT_POSSIBLE if the text is empty or has a byte other than the letters a to h");
        ShorthandOutlines x = new ShorthandOutlines();
        Checks.refused(x, "of a new object: addWord(1)", () -> x.addWord(1), -3);
        Checks.type(x, "a");
        Checks.due("addWord(1)", x.addWord(1), 0);
        x.clearText();
        Checks.refused(x, "emptied: addWord(1)", () -> x.addWord(1), -3);
    }

    private static void otherBytes() {
        Document.says(6, "NOT_POSSIBLE if the text is empty or has a byte other than the letters a to h");
        for (int value = 0; value < 128; value++) {
            ShorthandOutlines x = new ShorthandOutlines();
            x.append(value);
            boolean letter = value >= 'a' && value <= 'h';
            Checks.due("addWord(1) of the byte " + value, x.addWord(1), letter ? 0 : -3);
        }
        ShorthandOutlines y = new ShorthandOutlines();
        for (String text : new String[] {"iaaaaaaa", "aaaaaaai", "aaaa`aaa", "abcdefgH"}) {
            Checks.type(y, text);
            Checks.refused(y, "addWord(1) of " + text, () -> y.addWord(1), -3);
        }
    }

    private static void fullDictionary() {
        Document.says(6, "FULL if the dictionary has 12 words");
        ShorthandOutlines x = Checks.fullOf("bc");
        Checks.refused(x, "with 12 words: addWord(1)", () -> x.addWord(1), -4);
        x.removeWord(11);
        Checks.due("with 11 words: addWord(1)", x.addWord(1), 11);
        Checks.refused(x, "with 12 words: addWord(999)", () -> x.addWord(999), -4);
    }

    private static void removes() {
        Document.says(7, "Removes a word", "`word`: number of a word");
        ShorthandOutlines x = Checks.having("b", "cd", "fgh");
        x.setBrief(1, 23);
        Checks.due("removeWord(1)", x.removeWord(1), 2);
        Checks.due("its brief form is free: setBrief(1, 23)", x.setBrief(1, 23), -1);
        Checks.due("removeWord(0)", x.removeWord(0), 1);
        Checks.due("removeWord(0)", x.removeWord(0), 0);
        Checks.due("proposedWord(-1)", x.proposedWord(-1), 0);
        ShorthandOutlines y = Checks.having("b", "cd");
        y.removeWord(0);
        Checks.due("a lone stroke is free: setBrief(0, 3)", y.setBrief(0, 3), -1);
    }

    private static void movesDown() {
        Document.says(7, "The words with higher numbers move down by one");
        for (int removed : new int[] {0, 5, 11}) {
            ShorthandOutlines x = new ShorthandOutlines();
            for (int word = 0; word < 12; word++) {
                Checks.add(x, "hgfdcbgb".substring(word % 8), word + 1);
                x.setBrief(word, 23 - word);
            }
            int[] strokes = {21, 18, 15, 9, 6, 3, 18, 3};
            Checks.due("removeWord(" + removed + ")", x.removeWord(removed), 11);
            for (int word = 0; word < 11; word++) {
                int old = word < removed ? word : word + 1;
                Checks.due("frequency(" + word + ")", x.frequency(word), old + 1);
                Checks.due("letters(" + word + ")", x.letters(word), 8 - old % 8);
                Checks.due("brief(" + word + ")", x.brief(word), 23 - old);
                for (int i = 0; i < 8 - old % 8; i++) {
                    Checks.due("stroke(" + word + ", " + i + ")", x.stroke(word, i), strokes[old % 8 + i]);
                }
            }
        }
    }

    private static void removeWordUndoable() {
        Document.says(7, "Undoable");
        ShorthandOutlines x = Checks.fullOf("bc");
        x.setBrief(0, 9);
        x.removeWord(0);
        x.removeWord(10);
        Checks.due("undo()", x.undo(), 4);
        Checks.due("words()", x.words(), 11);
        Checks.due("brief(0)", x.brief(0), -1);
        Checks.due("undo()", x.undo(), 3);
        Checks.due("words()", x.words(), 12);
        Checks.due("brief(0)", x.brief(0), 9);
        differentWordsComeBack();
    }

    private static void differentWordsComeBack() {
        ShorthandOutlines x = new ShorthandOutlines();
        for (int word = 0; word < 12; word++) {
            Checks.add(x, "hgfdcbgb".substring(word % 8), 999 - word);
        }
        for (int i = 0; i < 4; i++) {
            x.removeWord(0);
        }
        for (int left = 4; left >= 1; left--) {
            Checks.due("undo()", x.undo(), left);
        }
        int[] strokes = {21, 18, 15, 9, 6, 3, 18, 3};
        for (int word = 0; word < 12; word++) {
            int last = 7 - word % 8;
            Checks.due("letters(" + word + ")", x.letters(word), last + 1);
            Checks.due("frequency(" + word + ")", x.frequency(word), 999 - word);
            Checks.due("stroke(" + word + ", 0)", x.stroke(word, 0), strokes[word % 8]);
            Checks.due("stroke(" + word + ", " + last + ")", x.stroke(word, last), 3);
        }
    }

    private static void remaining() {
        Document.says(7, "Returns the number of words that remain");
        ShorthandOutlines x = Checks.fullOf("bc");
        for (int left = 11; left >= 0; left--) {
            Checks.due("removeWord(" + left + ")", x.removeWord(left), left);
        }
    }

    private static void noWordToRemove() {
        Document.says(7, "OUT_OF_RANGE if there is no such word");
        ShorthandOutlines x = new ShorthandOutlines();
        Checks.refused(x, "without words: removeWord(0)", () -> x.removeWord(0), -2);
        Checks.add(x, "bc", 1);
        Checks.add(x, "bc", 1);
        for (int word : Checks.noWords(x)) {
            Checks.refused(x, "removeWord(" + word + ")", () -> x.removeWord(word), -2);
        }
        ShorthandOutlines y = Checks.fullOf("bc");
        Checks.refused(y, "of 12 words: removeWord(12)", () -> y.removeWord(12), -2);
        Checks.due("removeWord(11)", y.removeWord(11), 11);
        Checks.refused(y, "of 11 words: removeWord(11)", () -> y.removeWord(11), -2);
    }

    private static void countsWords() {
        Document.says(8, "Returns the number of words, 0 to 12", "Returns the number of words");
        ShorthandOutlines x = new ShorthandOutlines();
        Checks.quiet(x, "of a new object: words()", x::words, 0);
        Checks.type(x, "a");
        for (int count = 1; count <= 12; count++) {
            x.addWord(1);
            Checks.due("words()", x.words(), count);
        }
        x.addWord(1);
        Checks.due("behind a refused word: words()", x.words(), 12);
        x.removeWord(0);
        Checks.due("words()", x.words(), 11);
        x.undo();
        Checks.due("words()", x.words(), 12);
    }

    private static void countsLetters() {
        Document.says(9, "Returns the number of letters of a word", "Returns the number of letters",
            "`word`: number of a word", "OUT_OF_RANGE if there is no such word");
        ShorthandOutlines x = new ShorthandOutlines();
        Checks.refused(x, "without words: letters(0)", () -> x.letters(0), -2);
        for (int length = 1; length <= 8; length++) {
            Checks.add(x, "aaaaaaaa".substring(0, length), 1);
            int word = length - 1;
            Checks.quiet(x, "letters(" + word + ")", () -> x.letters(word), length);
        }
        for (int word : Checks.noWords(x)) {
            Checks.refused(x, "letters(" + word + ")", () -> x.letters(word), -2);
        }
        x.setVowels(255);
        Checks.due("vowels count: letters(7)", x.letters(7), 8);
    }

    private static void tellsFrequency() {
        Document.says(10, "Returns the frequency of a word", "Returns the frequency",
            "`word`: number of a word", "OUT_OF_RANGE if there is no such word");
        ShorthandOutlines x = new ShorthandOutlines();
        Checks.refused(x, "without words: frequency(0)", () -> x.frequency(0), -2);
        Checks.add(x, "b", 1);
        Checks.add(x, "b", 999);
        Checks.quiet(x, "the least: frequency(0)", () -> x.frequency(0), 1);
        Checks.quiet(x, "the greatest: frequency(1)", () -> x.frequency(1), 999);
        for (int word : Checks.noWords(x)) {
            Checks.refused(x, "frequency(" + word + ")", () -> x.frequency(word), -2);
        }
    }
}
