import java.io.IOException;
import java.io.UncheckedIOException;
import java.nio.file.Files;
import java.nio.file.Path;
import java.util.ArrayList;
import java.util.HashSet;
import java.util.List;
import java.util.Set;

/**
 * The sentences of the document. A boundary test names the words that it stands for, so that words
 * that the document has not, and sentences that no test stands for, are found.
 */
final class Document {
    static final int DESCRIPTION = 0;

    private static final Path FILE = Path.of("../shared/DOC.md");
    private static final int SKIPPED = -1;
    private static final List<Piece> PIECES = read();
    private static final Set<Piece> NAMED = new HashSet<>();

    private record Piece(int section, String words) {
        String place() {
            return section == DESCRIPTION ? "description" : "promise " + section;
        }
    }

    private Document() {
    }

    /** The test that calls this stands for these words of the section. */
    static void says(int section, String... quotes) {
        Checks.part((section == DESCRIPTION ? "description" : "promise " + section) + ", \"" + quotes[0] + "\"");
        for (String quote : quotes) {
            List<Piece> found = find(section, quote);
            Checks.due("places in the document that say \"" + quote + "\"", found.size(), 1);
            NAMED.addAll(found);
        }
    }

    static void everySentenceIsNamed() {
        for (Piece piece : PIECES) {
            Checks.part(piece.place());
            Checks.holds("a test stands for \"" + piece.words() + "\"", NAMED.contains(piece));
        }
    }

    private static List<Piece> find(int section, String quote) {
        List<Piece> containing = new ArrayList<>();
        for (Piece piece : PIECES) {
            if (piece.section() == section && piece.words().equals(quote)) {
                return List.of(piece);
            }
            if (piece.section() == section && piece.words().contains(quote)) {
                containing.add(piece);
            }
        }
        return containing;
    }

    private static List<Piece> read() {
        List<Piece> pieces = new ArrayList<>();
        int section = SKIPPED;
        for (String block : text().split("\n\\s*\n")) {
            if (block.startsWith("#")) {
                section = sectionOf(block);
            } else if (section != SKIPPED && !isFrame(block)) {
                addPieces(pieces, section, block);
            }
        }
        return pieces;
    }

    private static String text() {
        try {
            return Files.readString(FILE);
        } catch (IOException e) {
            throw new UncheckedIOException(e);
        }
    }

    private static int sectionOf(String heading) {
        if (heading.startsWith("## Promise ")) {
            return Integer.parseInt(heading.replaceAll("(?s)## Promise (\\d+):.*", "$1"));
        }
        boolean described = heading.startsWith("## Description") || heading.startsWith("## What it is");
        return described ? DESCRIPTION : SKIPPED;
    }

    /** What says nothing of its own: signatures, group names, introductions; the Examples have ExamplesTest. */
    private static boolean isFrame(String block) {
        return block.startsWith("`") || block.startsWith("----") || block.startsWith("Examples:")
            || block.startsWith("The constants:") || block.startsWith("The constructor and the methods follow")
            || block.startsWith("A shorthand system:");
    }

    private static void addPieces(List<Piece> pieces, int section, String block) {
        String[] parts = block.startsWith("- ") ? block.split("\n") : block.split("(?<=\\.)\\s+(?=[A-Z(])|;\\s+");
        for (String part : parts) {
            String words = part.replaceAll("\\s+", " ").replaceAll("^- |\\.$", "").strip();
            boolean label = section == DESCRIPTION && words.split(" ").length <= 2;
            if (!words.isEmpty() && !label) {
                pieces.add(new Piece(section, words));
            }
        }
    }
}
