public final class ShorthandOutlines {
    public static final int OUT_OF_RANGE = -2;
    public static final int NOT_POSSIBLE = -3;
    public static final int FULL = -4;
    public static final int NOTHING_SAVED = -5;
    public static final int NONE = -1;

    private static final int DIRECTIONS = 8;
    private static final int LENGTHS = 3;
    private static final int STROKES = DIRECTIONS * LENGTHS;
    private static final int SAME_STROKE_COST = 3;
    private static final int SOUNDS = 8;
    private static final int ALL_VOWELS = (1 << SOUNDS) - 1;
    private static final int VOWELS_A_AND_E = 1 | 1 << 4;
    private static final int MOST_WORDS = 12;
    private static final int MOST_LETTERS = 8;
    private static final int MOST_FREQUENCY = 999;
    private static final int MOST_BYTE = 127;
    private static final int MOST_ON_PAD = 8;
    private static final int MOST_DOUBT = 3;
    private static final int MOST_SAVED = 5;
    private static final int ERROR_CODES = 4;
    private static final int HOW_MANY = -1;
    // Above the cost of every outline, which has at most seven joins of at most 4.
    private static final int UNREACHABLE = 1000;
    private static final long DIGEST_START = 2707L;

    private final State state = new State();
    private final History history = new History();
    private final Outline outline = new Outline();
    private final Proposal proposal = new Proposal();
    private final Pad pad = new Pad();
    private final int[] text = new int[MOST_LETTERS];
    private int textLength = 0;
    private final int[] errors = new int[ERROR_CODES];

    public ShorthandOutlines() {
    }

    public int setSound(int sound, int first, int second) {
        boolean secondFits = second == NONE || isStroke(second);
        if (sound < 0 || sound >= SOUNDS || !isStroke(first) || !secondFits) {
            return fail(OUT_OF_RANGE);
        }
        history.save(state);
        int previous = state.first[sound];
        state.first[sound] = first;
        state.second[sound] = second;
        return previous;
    }

    public int setVowels(int vowels) {
        if (vowels < 0 || vowels > ALL_VOWELS) {
            return fail(OUT_OF_RANGE);
        }
        history.save(state);
        int previous = state.vowels;
        state.vowels = vowels;
        return previous;
    }

    public int append(int value) {
        if (value < 0 || value > MOST_BYTE) {
            return fail(OUT_OF_RANGE);
        }
        if (textLength >= MOST_LETTERS) {
            return fail(FULL);
        }
        text[textLength] = value;
        textLength++;
        return textLength;
    }

    public int clearText() {
        int previous = textLength;
        textLength = 0;
        return previous;
    }

    public int addWord(int frequency) {
        if (frequency < 1 || frequency > MOST_FREQUENCY) {
            return fail(OUT_OF_RANGE);
        }
        if (!textIsWord()) {
            return fail(NOT_POSSIBLE);
        }
        if (state.wordCount >= MOST_WORDS) {
            return fail(FULL);
        }
        history.save(state);
        return state.enter(text, textLength, frequency);
    }

    public int removeWord(int word) {
        if (!state.hasWord(word)) {
            return fail(OUT_OF_RANGE);
        }
        history.save(state);
        state.drop(word);
        return state.wordCount;
    }

    public int words() {
        return state.wordCount;
    }

    public int letters(int word) {
        if (!state.hasWord(word)) {
            return fail(OUT_OF_RANGE);
        }
        return state.lengths[word];
    }

    public int frequency(int word) {
        if (!state.hasWord(word)) {
            return fail(OUT_OF_RANGE);
        }
        return state.frequencies[word];
    }

    public int strokes(int word) {
        if (!state.hasWord(word)) {
            return fail(OUT_OF_RANGE);
        }
        return state.writtenCount(word);
    }

    public int stroke(int word, int index) {
        if (!state.hasWord(word) || index < 0 || index >= state.writtenCount(word)) {
            return fail(OUT_OF_RANGE);
        }
        outline.build(state, word);
        return outline.strokes[index];
    }

    public int cost(int word) {
        if (!state.hasWord(word)) {
            return fail(OUT_OF_RANGE);
        }
        outline.build(state, word);
        return outline.cost;
    }

    public int outlines(int word) {
        if (!state.hasWord(word)) {
            return fail(OUT_OF_RANGE);
        }
        outline.build(state, word);
        return outline.ways();
    }

    public int joinCost(int a, int b) {
        if (!isStroke(a) || !isStroke(b)) {
            return fail(OUT_OF_RANGE);
        }
        return join(a, b);
    }

    public int setBrief(int word, int stroke) {
        if (!state.hasWord(word) || !isStroke(stroke)) {
            return fail(OUT_OF_RANGE);
        }
        if (!state.isFree(stroke, word)) {
            return fail(NOT_POSSIBLE);
        }
        history.save(state);
        int previous = state.briefs[word];
        state.briefs[word] = stroke;
        return previous;
    }

    public int clearBrief(int word) {
        if (!state.hasWord(word)) {
            return fail(OUT_OF_RANGE);
        }
        int previous = state.briefs[word];
        if (previous == NONE) {
            return fail(NOT_POSSIBLE);
        }
        history.save(state);
        state.briefs[word] = NONE;
        return previous;
    }

    public int brief(int word) {
        if (!state.hasWord(word)) {
            return fail(OUT_OF_RANGE);
        }
        return state.briefs[word];
    }

    public int gain(int word) {
        if (!state.hasWord(word)) {
            return fail(OUT_OF_RANGE);
        }
        return state.gainOf(word);
    }

    public int proposedWord(int index) {
        if (index < HOW_MANY) {
            return fail(OUT_OF_RANGE);
        }
        proposal.make(state);
        return proposal.chosen.sizeOrWord(index);
    }

    public int proposedStroke(int index) {
        if (index < 0) {
            return fail(OUT_OF_RANGE);
        }
        proposal.make(state);
        return proposal.chosen.valueAt(index);
    }

    public int acceptProposal() {
        history.save(state);
        proposal.make(state);
        Ranking chosen = proposal.chosen;
        for (int i = 0; i < chosen.size; i++) {
            state.briefs[chosen.words[i]] = chosen.values[i];
        }
        return chosen.size;
    }

    public int write(int stroke) {
        if (!isStroke(stroke)) {
            return fail(OUT_OF_RANGE);
        }
        if (pad.length >= MOST_ON_PAD) {
            return fail(FULL);
        }
        pad.strokes[pad.length] = stroke;
        pad.length++;
        return pad.length;
    }

    public int clearPad() {
        int previous = pad.length;
        pad.length = 0;
        return previous;
    }

    public int reading(int index) {
        if (index < HOW_MANY) {
            return fail(OUT_OF_RANGE);
        }
        pad.read(state);
        return pad.readings.sizeOrWord(index);
    }

    public int doubt(int index) {
        if (index < 0) {
            return fail(OUT_OF_RANGE);
        }
        pad.read(state);
        return pad.readings.valueAt(index);
    }

    public int undo() {
        if (history.count == 0) {
            return fail(NOTHING_SAVED);
        }
        history.restore(state);
        return history.count;
    }

    public int errorCount(int code) {
        if (code > OUT_OF_RANGE || code < NOTHING_SAVED) {
            return fail(OUT_OF_RANGE);
        }
        return errors[OUT_OF_RANGE - code];
    }

    public long digest() {
        proposal.make(state);
        pad.read(state);
        long h = mixAll(DIGEST_START, errors, ERROR_CODES);
        h = mixSounds(h);
        h = mixWords(h);
        h = mixRanking(h, proposal.chosen);
        h = mixAll(mix(h, pad.length), pad.strokes, pad.length);
        h = mixRanking(h, pad.readings);
        h = mix(h, textLength);
        return mix(h, history.count);
    }

    private long mixSounds(long start) {
        long h = mix(start, state.vowels);
        for (int sound = 0; sound < SOUNDS; sound++) {
            h = mix(mix(h, state.first[sound]), state.second[sound]);
        }
        return h;
    }

    private long mixWords(long start) {
        long h = mix(start, state.wordCount);
        for (int word = 0; word < state.wordCount; word++) {
            outline.build(state, word);
            h = mix(mix(h, state.frequencies[word]), state.briefs[word]);
            h = mix(mix(h, outline.cost), outline.length);
            h = mixAll(h, outline.strokes, outline.length);
        }
        return h;
    }

    private static long mixRanking(long start, Ranking ranking) {
        long h = mix(start, ranking.size);
        for (int i = 0; i < ranking.size; i++) {
            h = mix(mix(h, ranking.words[i]), ranking.values[i]);
        }
        return h;
    }

    private static long mixAll(long start, int[] values, int count) {
        long h = start;
        for (int i = 0; i < count && i < values.length; i++) {
            h = mix(h, values[i]);
        }
        return h;
    }

    private static long mix(long h, int value) {
        return 31 * h + value;
    }

    private int fail(int code) {
        int index = OUT_OF_RANGE - code;
        if (index >= 0 && index < ERROR_CODES) {
            errors[index]++;
        }
        return code;
    }

    private boolean textIsWord() {
        for (int i = 0; i < textLength; i++) {
            if (text[i] < 'a' || text[i] > 'h') {
                return false;
            }
        }
        return textLength > 0;
    }

    private static boolean isStroke(int code) {
        return code >= 0 && code < STROKES;
    }

    private static int turn(int a, int b) {
        int steps = Math.abs(a / LENGTHS - b / LENGTHS);
        return Math.min(steps, DIRECTIONS - steps);
    }

    private static int join(int a, int b) {
        return a == b ? SAME_STROKE_COST : turn(a, b);
    }

    private static int difference(int a, int b) {
        return turn(a, b) + Math.abs(a % LENGTHS - b % LENGTHS);
    }

    /** What undo brings back: the sounds and the dictionary with its brief forms. */
    private static final class State {
        final int[] first = new int[SOUNDS];
        final int[] second = new int[SOUNDS];
        int vowels = VOWELS_A_AND_E;
        int wordCount = 0;
        // The sounds of word w stand from w * MOST_LETTERS on.
        final int[] spelling = new int[MOST_WORDS * MOST_LETTERS];
        final int[] lengths = new int[MOST_WORDS];
        final int[] frequencies = new int[MOST_WORDS];
        final int[] briefs = new int[MOST_WORDS];

        State() {
            for (int sound = 0; sound < SOUNDS; sound++) {
                first[sound] = LENGTHS * sound;
                second[sound] = NONE;
            }
        }

        void copyFrom(State other) {
            System.arraycopy(other.first, 0, first, 0, SOUNDS);
            System.arraycopy(other.second, 0, second, 0, SOUNDS);
            vowels = other.vowels;
            wordCount = other.wordCount;
            System.arraycopy(other.spelling, 0, spelling, 0, MOST_WORDS * MOST_LETTERS);
            System.arraycopy(other.lengths, 0, lengths, 0, MOST_WORDS);
            System.arraycopy(other.frequencies, 0, frequencies, 0, MOST_WORDS);
            System.arraycopy(other.briefs, 0, briefs, 0, MOST_WORDS);
        }

        boolean hasWord(int word) {
            return word >= 0 && word < wordCount;
        }

        /** Needs room for a word, and a text of 1 to MOST_LETTERS letters from a to h. */
        int enter(int[] text, int length, int frequency) {
            int word = wordCount;
            for (int i = 0; i < length; i++) {
                spelling[word * MOST_LETTERS + i] = text[i] - 'a';
            }
            lengths[word] = length;
            frequencies[word] = frequency;
            briefs[word] = NONE;
            wordCount++;
            return word;
        }

        void drop(int word) {
            for (int later = word + 1; later < wordCount; later++) {
                moveDown(later);
            }
            wordCount--;
        }

        /** Needs a word that is not the first one. */
        private void moveDown(int word) {
            int to = word - 1;
            for (int i = 0; i < MOST_LETTERS; i++) {
                spelling[to * MOST_LETTERS + i] = spelling[word * MOST_LETTERS + i];
            }
            lengths[to] = lengths[word];
            frequencies[to] = frequencies[word];
            briefs[to] = briefs[word];
        }

        int soundAt(int word, int position) {
            return spelling[word * MOST_LETTERS + position];
        }

        boolean isWritten(int word, int position) {
            return position == 0 || (vowels >> soundAt(word, position) & 1) == 0;
        }

        int writtenCount(int word) {
            int count = 0;
            for (int i = 0; i < lengths[word]; i++) {
                if (isWritten(word, i)) {
                    count++;
                }
            }
            return count;
        }

        int gainOf(int word) {
            return frequencies[word] * (writtenCount(word) - 1);
        }

        /**
         * The one stroke that a word keeps from the others, or NONE. An outline of one stroke
         * has no joins, so that both choices cost the same and the first stroke is written.
         */
        int keptStroke(int word) {
            if (briefs[word] != NONE) {
                return briefs[word];
            }
            return writtenCount(word) == 1 ? first[soundAt(word, 0)] : NONE;
        }

        boolean isFree(int stroke, int word) {
            for (int other = 0; other < wordCount; other++) {
                if (other != word && keptStroke(other) == stroke) {
                    return false;
                }
            }
            return true;
        }

        int differenceFromSound(int stroke, int sound) {
            int least = difference(stroke, first[sound]);
            if (second[sound] == NONE) {
                return least;
            }
            return Math.min(least, difference(stroke, second[sound]));
        }
    }

    /** The saved states, the oldest first; its rows are made once and used again. */
    private static final class History {
        private final State[] saved = new State[MOST_SAVED];
        int count = 0;

        History() {
            for (int i = 0; i < MOST_SAVED; i++) {
                saved[i] = new State();
            }
        }

        void save(State now) {
            if (count >= MOST_SAVED) {
                forgetOldest();
            }
            State slot = saved[count];
            if (slot != null) {
                slot.copyFrom(now);
                count++;
            }
        }

        void restore(State now) {
            if (count <= 0) {
                return;
            }
            count--;
            State slot = saved[count];
            if (slot != null) {
                now.copyFrom(slot);
            }
        }

        private void forgetOldest() {
            State oldest = saved[0];
            for (int i = 1; i < MOST_SAVED; i++) {
                saved[i - 1] = saved[i];
            }
            saved[MOST_SAVED - 1] = oldest;
            count = MOST_SAVED - 1;
        }
    }

    /** The written outline of the word that it was built for last. */
    private static final class Outline {
        final int[] strokes = new int[MOST_LETTERS];
        int length = 0;
        int cost = 0;
        private final int[] firsts = new int[MOST_LETTERS];
        private final int[] seconds = new int[MOST_LETTERS];
        // The least cost of the joins from a position to the end, by the choice at the position.
        private final int[] restWithFirst = new int[MOST_LETTERS];
        private final int[] restWithSecond = new int[MOST_LETTERS];

        void build(State state, int word) {
            collectChoices(state, word);
            for (int i = length - 1; i >= 0; i--) {
                restWithFirst[i] = leastRest(firsts[i], i + 1);
                restWithSecond[i] = seconds[i] == NONE ? UNREACHABLE : leastRest(seconds[i], i + 1);
            }
            chooseStrokes();
        }

        int ways() {
            int ways = 1;
            for (int i = 0; i < length; i++) {
                if (seconds[i] != NONE) {
                    ways *= 2;
                }
            }
            return ways;
        }

        private void collectChoices(State state, int word) {
            length = 0;
            for (int i = 0; i < state.lengths[word]; i++) {
                if (state.isWritten(word, i)) {
                    int sound = state.soundAt(word, i);
                    firsts[length] = state.first[sound];
                    seconds[length] = state.second[sound];
                    length++;
                }
            }
        }

        private int leastRest(int stroke, int next) {
            if (next >= length) {
                return 0;
            }
            return Math.min(costOverFirst(stroke, next), costOverSecond(stroke, next));
        }

        private int costOverFirst(int stroke, int next) {
            return join(stroke, firsts[next]) + restWithFirst[next];
        }

        private int costOverSecond(int stroke, int next) {
            return seconds[next] == NONE ? UNREACHABLE : join(stroke, seconds[next]) + restWithSecond[next];
        }

        // From the front on and with the first stroke where both cost the same: so the first
        // position where two cheapest outlines differ decides, as the document wants.
        private void chooseStrokes() {
            cost = Math.min(restWithFirst[0], restWithSecond[0]);
            strokes[0] = restWithSecond[0] < restWithFirst[0] ? seconds[0] : firsts[0];
            for (int i = 1; i < length; i++) {
                int before = strokes[i - 1];
                boolean second = costOverSecond(before, i) < costOverFirst(before, i);
                strokes[i] = second ? seconds[i] : firsts[i];
            }
        }
    }

    /** Words in the order of descending weights (equal weights: as they came), each with a value. */
    private static final class Ranking {
        final int[] words = new int[MOST_WORDS];
        final int[] values = new int[MOST_WORDS];
        private final int[] weights = new int[MOST_WORDS];
        int size = 0;

        void empty() {
            size = 0;
        }

        void insert(int word, int value, int weight) {
            if (size >= MOST_WORDS) {
                return;
            }
            int place = size;
            while (place > 0 && weights[place - 1] < weight) {
                words[place] = words[place - 1];
                values[place] = values[place - 1];
                weights[place] = weights[place - 1];
                place--;
            }
            words[place] = word;
            values[place] = value;
            weights[place] = weight;
            size++;
        }

        int sizeOrWord(int index) {
            if (index == HOW_MANY) {
                return size;
            }
            return index >= 0 && index < size ? words[index] : NONE;
        }

        int valueAt(int index) {
            return index >= 0 && index < size ? values[index] : NONE;
        }
    }

    /** The brief forms that are proposed; a value of the ranking is a stroke. */
    private static final class Proposal {
        final Ranking chosen = new Ranking();
        private final Ranking candidates = new Ranking();
        private final boolean[] taken = new boolean[STROKES];

        void make(State state) {
            rankCandidates(state);
            markKeptStrokes(state);
            chosen.empty();
            for (int i = 0; i < candidates.size; i++) {
                int stroke = lowestUntaken();
                if (stroke != NONE) {
                    taken[stroke] = true;
                    chosen.insert(candidates.words[i], stroke, 0);
                }
            }
        }

        private void rankCandidates(State state) {
            candidates.empty();
            for (int word = 0; word < state.wordCount; word++) {
                int gain = state.gainOf(word);
                if (state.briefs[word] == NONE && gain >= 1) {
                    candidates.insert(word, NONE, gain);
                }
            }
        }

        // A candidate keeps no stroke itself (no brief form, two strokes or more), so the
        // strokes that are free for one candidate are free for all of them.
        private void markKeptStrokes(State state) {
            for (int stroke = 0; stroke < STROKES; stroke++) {
                taken[stroke] = false;
            }
            for (int word = 0; word < state.wordCount; word++) {
                int kept = state.keptStroke(word);
                if (kept != NONE) {
                    taken[kept] = true;
                }
            }
        }

        private int lowestUntaken() {
            for (int stroke = 0; stroke < STROKES; stroke++) {
                if (!taken[stroke]) {
                    return stroke;
                }
            }
            return NONE;
        }
    }

    /** The outline to be read, and its readings; a value of the ranking is a doubt. */
    private static final class Pad {
        final int[] strokes = new int[MOST_ON_PAD];
        int length = 0;
        final Ranking readings = new Ranking();

        void read(State state) {
            readings.empty();
            for (int word = 0; word < state.wordCount; word++) {
                int candidate = candidateOf(state, word);
                if (candidate != NONE && candidate <= MOST_DOUBT) {
                    readings.insert(word, candidate, readingWeight(candidate, state.frequencies[word]));
                }
            }
        }

        // One number for both keys: a step of doubt outweighs every frequency.
        private static int readingWeight(int doubt, int frequency) {
            return (MOST_DOUBT - doubt) * (MOST_FREQUENCY + 1) + frequency;
        }

        private int candidateOf(State state, int word) {
            int brief = state.briefs[word];
            if (brief != NONE) {
                return length == 1 ? difference(strokes[0], brief) : NONE;
            }
            return state.writtenCount(word) == length ? differenceFromWord(state, word) : NONE;
        }

        private int differenceFromWord(State state, int word) {
            int sum = 0;
            int position = 0;
            for (int i = 0; i < state.lengths[word] && position < length; i++) {
                if (state.isWritten(word, i)) {
                    sum += state.differenceFromSound(strokes[position], state.soundAt(word, i));
                    position++;
                }
            }
            return sum;
        }
    }
}
