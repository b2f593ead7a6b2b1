import java.util.ArrayList;
import java.util.Comparator;
import java.util.List;
import java.util.Random;

/**
 * Long runs of calls on the program and on a second, slow form of the document's words (every
 * outline tried, every list sorted anew); each answer must be the same. A run has 512 calls, the
 * most that an object is used for.
 */
public final class ModelTest {
    private static final int RUNS = 400;
    private static final int CALLS = 512;
    private static final int MOST_CALLS_OF_A_STEP = 3;

    public static void main(String[] args) {
        for (int run = 0; run < RUNS; run++) {
            new ModelTest(run).run();
        }
        Checks.finish();
    }

    private record Entry(String letters, int frequency, int brief) {
    }

    private record Saved(int[] first, int[] second, int vowels, List<Entry> entries) {
    }

    private final int number;
    private final Random random;
    private final ShorthandOutlines x = new ShorthandOutlines();
    private int[] first = {0, 3, 6, 9, 12, 15, 18, 21};
    private int[] second = {-1, -1, -1, -1, -1, -1, -1, -1};
    private int vowels = 17;
    private List<Entry> entries = new ArrayList<>();
    private final List<Saved> saved = new ArrayList<>();
    private final List<Integer> pad = new ArrayList<>();
    private String text = "";
    private final int[] errors = new int[4];
    private int calls = 0;
    private int meant = 0;

    private ModelTest(int number) {
        this.number = number;
        this.random = new Random(number);
    }

    private void run() {
        while (calls + MOST_CALLS_OF_A_STEP <= CALLS) {
            step();
            if (random.nextInt(2) == 0) {
                due("digest()", x.digest(), digest());
            }
        }
        while (calls < CALLS) {
            due("digest()", x.digest(), digest());
        }
    }

    private void due(String call, long got, long want) {
        calls++;
        Checks.part("run " + number + ", call " + calls);
        Checks.due(call, got, want);
    }

    private void step() {
        int kind = random.nextInt(100);
        if (kind < 22) {
            append();
        } else if (kind < 26) {
            due("clearText", x.clearText(), text.length());
            text = "";
        } else if (kind < 38) {
            addWord();
        } else if (kind < 40) {
            removeWord();
        } else if (kind < 46) {
            setSound();
        } else if (kind < 48) {
            setVowels();
        } else if (kind < 55) {
            briefs();
        } else if (kind < 57 && number % 2 == 0) {
            // Only in every second run, as the words with brief forms hide all longer readings.
            accept();
        } else if (kind < 71) {
            padCalls();
        } else if (kind < 75) {
            undo();
        } else {
            questions();
        }
    }

    private int near(int low, int high) {
        int pick = random.nextInt(20);
        if (pick == 0) {
            return low - 1;
        }
        if (pick == 1) {
            return high + 1;
        }
        if (pick == 2 && random.nextInt(4) == 0) {
            return random.nextInt();
        }
        return high < low ? low : low + random.nextInt(high - low + 1);
    }

    private int fail(int code) {
        errors[-2 - code]++;
        return code;
    }

    private void save() {
        saved.add(new Saved(first.clone(), second.clone(), vowels, new ArrayList<>(entries)));
        if (saved.size() > 5) {
            saved.remove(0);
        }
    }

    private static boolean code(int stroke) {
        return 0 <= stroke && stroke <= 23;
    }

    private boolean word(int word) {
        return 0 <= word && word < entries.size();
    }

    private void append() {
        int value = random.nextInt(30) == 0 ? near(0, 127) : 'a' + random.nextInt(8);
        int due;
        if (value < 0 || value > 127) {
            due = fail(-2);
        } else if (text.length() == 8) {
            due = fail(-4);
        } else {
            text = text + (char) value;
            due = text.length();
        }
        due("append(" + value + ")", x.append(value), due);
    }

    private void addWord() {
        int frequency = random.nextInt(3) == 0 ? near(1, 999) : near(1, 3);
        int due;
        if (frequency < 1 || frequency > 999) {
            due = fail(-2);
        } else if (!text.matches("[a-h]+")) {
            due = fail(-3);
        } else if (entries.size() == 12) {
            due = fail(-4);
        } else {
            save();
            entries.add(new Entry(text, frequency, -1));
            due = entries.size() - 1;
        }
        due("addWord(" + frequency + ")", x.addWord(frequency), due);
    }

    private void removeWord() {
        int w = near(0, entries.size() - 1);
        int due;
        if (!word(w)) {
            due = fail(-2);
        } else {
            save();
            entries.remove(w);
            due = entries.size();
        }
        due("removeWord(" + w + ")", x.removeWord(w), due);
    }

    private void setSound() {
        int sound = near(0, 7);
        int one = near(0, 23);
        int two = random.nextInt(3) == 0 ? -1 : near(-1, 23);
        int due;
        if (sound < 0 || sound > 7 || !code(one) || two != -1 && !code(two)) {
            due = fail(-2);
        } else {
            save();
            due = first[sound];
            first[sound] = one;
            second[sound] = two;
        }
        due("setSound(" + sound + ", " + one + ", " + two + ")", x.setSound(sound, one, two), due);
    }

    private void setVowels() {
        int set = near(0, 255);
        int due;
        if (set < 0 || set > 255) {
            due = fail(-2);
        } else {
            save();
            due = vowels;
            vowels = set;
        }
        due("setVowels(" + set + ")", x.setVowels(set), due);
    }

    private void briefs() {
        int w = near(0, entries.size() - 1);
        if (random.nextInt(3) == 0) {
            clearBrief(w);
            return;
        }
        int stroke = near(0, 23);
        int due;
        if (!word(w) || !code(stroke)) {
            due = fail(-2);
        } else if (!free(stroke, w)) {
            due = fail(-3);
        } else {
            save();
            due = entries.get(w).brief();
            give(w, stroke);
        }
        due("setBrief(" + w + ", " + stroke + ")", x.setBrief(w, stroke), due);
    }

    private void clearBrief(int w) {
        int due;
        if (!word(w)) {
            due = fail(-2);
        } else if (entries.get(w).brief() == -1) {
            due = fail(-3);
        } else {
            save();
            due = entries.get(w).brief();
            give(w, -1);
        }
        due("clearBrief(" + w + ")", x.clearBrief(w), due);
    }

    private void give(int w, int brief) {
        Entry old = entries.get(w);
        entries.set(w, new Entry(old.letters(), old.frequency(), brief));
    }

    private void accept() {
        List<int[]> proposal = proposal();
        save();
        for (int[] row : proposal) {
            give(row[0], row[1]);
        }
        due("acceptProposal()", x.acceptProposal(), proposal.size());
    }

    private void padCalls() {
        boolean written = !word(meant) || pad.size() >= written(meant).length();
        if (random.nextInt(written ? 2 : 12) == 0) {
            due("clearPad()", x.clearPad(), pad.size());
            pad.clear();
            meant = random.nextInt(12);
            return;
        }
        int stroke = strokeToWrite();
        int due;
        if (!code(stroke)) {
            due = fail(-2);
        } else if (pad.size() == 8) {
            due = fail(-4);
        } else {
            pad.add(stroke);
            due = pad.size();
        }
        due("write(" + stroke + ")", x.write(stroke), due);
    }

    /** Most often the stroke that the meant word has next, as random strokes are hardly ever read. */
    private int strokeToWrite() {
        boolean meaning = word(meant) && pad.size() < written(meant).length();
        if (!meaning || random.nextInt(8) == 0) {
            return near(0, 23);
        }
        int sound = written(meant).charAt(pad.size()) - 'a';
        int stroke = second[sound] != -1 && random.nextBoolean() ? second[sound] : first[sound];
        return random.nextInt(3) == 0 ? Math.max(0, Math.min(23, stroke + random.nextInt(9) - 4)) : stroke;
    }

    private void undo() {
        int due;
        if (saved.isEmpty()) {
            due = fail(-5);
        } else {
            Saved last = saved.remove(saved.size() - 1);
            first = last.first();
            second = last.second();
            vowels = last.vowels();
            entries = last.entries();
            due = saved.size();
        }
        due("undo()", x.undo(), due);
    }

    private void questions() {
        int kind = random.nextInt(14);
        if (kind < 8) {
            questionOfWord(kind, near(0, entries.size() - 1));
        } else if (kind < 12) {
            questionOfList(kind - 8, near(-1, kind < 10 ? proposal().size() : readings().size()));
        } else if (kind == 12) {
            int a = near(0, 23);
            int b = near(0, 23);
            due("joinCost(" + a + ", " + b + ")", x.joinCost(a, b), code(a) && code(b) ? join(a, b) : fail(-2));
        } else {
            int error = near(-5, -2);
            boolean known = error >= -5 && error <= -2;
            due("errorCount(" + error + ")", x.errorCount(error), known ? errors[-2 - error] : fail(-2));
            due("words()", x.words(), entries.size());
        }
    }

    private void questionOfWord(int kind, int w) {
        boolean known = word(w);
        switch (kind) {
            case 0 -> due("letters(" + w + ")", x.letters(w), known ? entries.get(w).letters().length() : fail(-2));
            case 1 -> due("frequency(" + w + ")", x.frequency(w), known ? entries.get(w).frequency() : fail(-2));
            case 2 -> due("strokes(" + w + ")", x.strokes(w), known ? written(w).length() : fail(-2));
            case 3 -> due("cost(" + w + ")", x.cost(w), known ? cost(outline(w)) : fail(-2));
            case 4 -> due("outlines(" + w + ")", x.outlines(w), known ? all(w).size() : fail(-2));
            case 5 -> due("brief(" + w + ")", x.brief(w), known ? entries.get(w).brief() : fail(-2));
            case 6 -> due("gain(" + w + ")", x.gain(w), known ? gain(w) : fail(-2));
            default -> {
                int i = near(0, known ? written(w).length() - 1 : 7);
                boolean has = known && i >= 0 && i < written(w).length();
                due("stroke(" + w + ", " + i + ")", x.stroke(w, i), has ? outline(w)[i] : fail(-2));
            }
        }
    }

    private void questionOfList(int kind, int i) {
        switch (kind) {
            case 0 -> due("proposedWord(" + i + ")", x.proposedWord(i), item(proposal(), i, 0));
            case 1 -> due("proposedStroke(" + i + ")", x.proposedStroke(i), item(proposal(), i, 1));
            case 2 -> due("reading(" + i + ")", x.reading(i), item(readings(), i, 0));
            default -> due("doubt(" + i + ")", x.doubt(i), item(readings(), i, 1));
        }
    }

    private int item(List<int[]> rows, int i, int column) {
        if (i == -1 && column == 0) {
            return rows.size();
        }
        if (i < 0) {
            return fail(-2);
        }
        return i < rows.size() ? rows.get(i)[column] : -1;
    }

    private String written(int w) {
        String letters = entries.get(w).letters();
        StringBuilder kept = new StringBuilder(letters.substring(0, 1));
        for (char c : letters.substring(1).toCharArray()) {
            if ((vowels & 1 << c - 'a') == 0) {
                kept.append(c);
            }
        }
        return kept.toString();
    }

    /** All outlines, in the order in which the document prefers them where costs are equal. */
    private List<int[]> all(int w) {
        List<int[]> rows = new ArrayList<>();
        rows.add(new int[0]);
        for (char c : written(w).toCharArray()) {
            List<int[]> longer = new ArrayList<>();
            for (int[] row : rows) {
                longer.add(with(row, first[c - 'a']));
                if (second[c - 'a'] != -1) {
                    longer.add(with(row, second[c - 'a']));
                }
            }
            rows = longer;
        }
        return rows;
    }

    private static int[] with(int[] row, int stroke) {
        int[] longer = java.util.Arrays.copyOf(row, row.length + 1);
        longer[row.length] = stroke;
        return longer;
    }

    private int[] outline(int w) {
        int[] best = null;
        for (int[] row : all(w)) {
            if (best == null || cost(row) < cost(best)) {
                best = row;
            }
        }
        return best;
    }

    private static int cost(int[] row) {
        int sum = 0;
        for (int i = 1; i < row.length; i++) {
            sum += join(row[i - 1], row[i]);
        }
        return sum;
    }

    private static int turn(int a, int b) {
        int clockwise = Math.floorMod(a / 3 - b / 3, 8);
        int back = Math.floorMod(b / 3 - a / 3, 8);
        return Math.min(clockwise, back);
    }

    private static int join(int a, int b) {
        return turn(a, b) + (a == b ? 3 : 0);
    }

    private static int difference(int a, int b) {
        return turn(a, b) + Math.abs(a % 3 - b % 3);
    }

    private int gain(int w) {
        return entries.get(w).frequency() * (outline(w).length - 1);
    }

    private boolean free(int stroke, int w) {
        for (int other = 0; other < entries.size(); other++) {
            if (other == w) {
                continue;
            }
            int brief = entries.get(other).brief();
            int[] row = outline(other);
            if (brief == stroke || brief == -1 && row.length == 1 && row[0] == stroke) {
                return false;
            }
        }
        return true;
    }

    private List<int[]> proposal() {
        List<Integer> order = new ArrayList<>();
        for (int w = 0; w < entries.size(); w++) {
            if (entries.get(w).brief() == -1 && gain(w) >= 1) {
                order.add(w);
            }
        }
        order.sort(Comparator.comparing((Integer w) -> -gain(w)).thenComparing(w -> w));
        List<int[]> rows = new ArrayList<>();
        List<Integer> taken = new ArrayList<>();
        for (int w : order) {
            for (int stroke = 0; stroke < 24; stroke++) {
                if (!taken.contains(stroke) && free(stroke, w)) {
                    taken.add(stroke);
                    rows.add(new int[] {w, stroke});
                    break;
                }
            }
        }
        return rows;
    }

    private List<int[]> readings() {
        List<int[]> rows = new ArrayList<>();
        for (int w = 0; w < entries.size() && !pad.isEmpty(); w++) {
            int candidate = candidate(w);
            if (candidate <= 3) {
                rows.add(new int[] {w, candidate});
            }
        }
        rows.sort(Comparator.comparing((int[] row) -> row[1])
            .thenComparing(row -> -entries.get(row[0]).frequency())
            .thenComparing(row -> row[0]));
        return rows;
    }

    private int candidate(int w) {
        int brief = entries.get(w).brief();
        if (brief != -1) {
            return pad.size() == 1 ? difference(pad.get(0), brief) : 99;
        }
        String sounds = written(w);
        if (sounds.length() != pad.size()) {
            return 99;
        }
        int sum = 0;
        for (int i = 0; i < pad.size(); i++) {
            int sound = sounds.charAt(i) - 'a';
            int one = difference(pad.get(i), first[sound]);
            sum += second[sound] == -1 ? one : Math.min(one, difference(pad.get(i), second[sound]));
        }
        return sum;
    }

    private long digest() {
        List<Integer> values = new ArrayList<>();
        for (int count : errors) {
            values.add(count);
        }
        values.add(vowels);
        for (int sound = 0; sound < 8; sound++) {
            values.add(first[sound]);
            values.add(second[sound]);
        }
        values.add(entries.size());
        for (int w = 0; w < entries.size(); w++) {
            int[] row = outline(w);
            values.addAll(List.of(entries.get(w).frequency(), entries.get(w).brief(), cost(row), row.length));
            for (int stroke : row) {
                values.add(stroke);
            }
        }
        addRows(values, proposal());
        values.add(pad.size());
        values.addAll(pad);
        addRows(values, readings());
        values.add(text.length());
        values.add(saved.size());
        long h = 2707;
        for (int value : values) {
            h = 31 * h + value;
        }
        return h;
    }

    private static void addRows(List<Integer> values, List<int[]> rows) {
        values.add(rows.size());
        for (int[] row : rows) {
            values.add(row[0]);
            values.add(row[1]);
        }
    }
}
