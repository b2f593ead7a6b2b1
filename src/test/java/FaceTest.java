import java.lang.reflect.Constructor;
import java.lang.reflect.Field;
import java.lang.reflect.Method;
import java.lang.reflect.Modifier;
import java.nio.file.Files;
import java.nio.file.Path;
import java.util.ArrayList;
import java.util.Arrays;
import java.util.List;
import java.util.Map;
import java.util.TreeMap;
import java.util.TreeSet;
import java.util.regex.Matcher;
import java.util.regex.Pattern;

/** The public face of the document, and those rules of LANGUAGE.md that can be seen from outside. */
public final class FaceTest {
    private static final Path SOURCE = Path.of("src/main/java/ShorthandOutlines.java");
    private static final List<String> FACE = List.of(
        "setSound(int,int,int):int", "setVowels(int):int", "append(int):int", "clearText():int",
        "addWord(int):int", "removeWord(int):int", "words():int", "letters(int):int", "frequency(int):int",
        "strokes(int):int", "stroke(int,int):int", "cost(int):int", "outlines(int):int",
        "joinCost(int,int):int", "setBrief(int,int):int", "clearBrief(int):int", "brief(int):int",
        "gain(int):int", "proposedWord(int):int", "proposedStroke(int):int", "acceptProposal():int",
        "write(int):int", "clearPad():int", "reading(int):int", "doubt(int):int", "undo():int",
        "errorCount(int):int", "digest():long");

    public static void main(String[] args) throws Exception {
        constants();
        methods();
        fields();
        nestedClasses();
        source();
        Checks.finish();
    }

    private static void constants() {
        Checks.part("the constants");
        Checks.due("OUT_OF_RANGE", ShorthandOutlines.OUT_OF_RANGE, -2);
        Checks.due("NOT_POSSIBLE", ShorthandOutlines.NOT_POSSIBLE, -3);
        Checks.due("FULL", ShorthandOutlines.FULL, -4);
        Checks.due("NOTHING_SAVED", ShorthandOutlines.NOTHING_SAVED, -5);
        Checks.due("NONE", ShorthandOutlines.NONE, -1);
    }

    private static void methods() {
        Checks.part("the face");
        int modifiers = ShorthandOutlines.class.getModifiers();
        Checks.holds("the class is public and final", Modifier.isPublic(modifiers) && Modifier.isFinal(modifiers));
        TreeSet<String> open = new TreeSet<>();
        for (Method m : ShorthandOutlines.class.getDeclaredMethods()) {
            if (Modifier.isPrivate(m.getModifiers())) {
                continue;
            }
            Checks.holds("public and of the object: " + m, m.getModifiers() == Modifier.PUBLIC);
            List<String> types = new ArrayList<>();
            for (Class<?> type : m.getParameterTypes()) {
                types.add(type.getName());
            }
            open.add(m.getName() + "(" + String.join(",", types) + "):" + m.getReturnType());
        }
        Checks.holds("the methods are " + FACE + ", found " + open, open.equals(new TreeSet<>(FACE)));
        Constructor<?>[] constructors = ShorthandOutlines.class.getDeclaredConstructors();
        Checks.due("constructors", constructors.length, 1);
        Checks.due("its parameters", constructors[0].getParameterCount(), 0);
        Checks.due("its modifiers", constructors[0].getModifiers(), Modifier.PUBLIC);
    }

    private static void fields() {
        Checks.part("the fields");
        TreeSet<String> open = new TreeSet<>();
        int own = 0;
        for (Field f : ShorthandOutlines.class.getDeclaredFields()) {
            int modifiers = f.getModifiers();
            if (!Modifier.isPrivate(modifiers)) {
                open.add(f.getName());
            }
            if (Modifier.isStatic(modifiers)) {
                Checks.holds("static fields are final: " + f, Modifier.isFinal(modifiers));
            } else {
                own++;
            }
        }
        List<String> constants = List.of("OUT_OF_RANGE", "NOT_POSSIBLE", "FULL", "NOTHING_SAVED", "NONE");
        Checks.holds("no open fields but the constants: " + open, open.equals(new TreeSet<>(constants)));
        Checks.holds("at most twenty fields", own <= 20);
    }

    private static void nestedClasses() {
        Checks.part("the classes inside");
        Class<?>[] inside = ShorthandOutlines.class.getDeclaredClasses();
        Checks.holds("at most twelve classes", inside.length < 12);
        for (Class<?> c : inside) {
            int modifiers = c.getModifiers();
            Checks.holds("static: " + c, Modifier.isStatic(modifiers));
            Checks.holds("neither public nor protected: " + c, (modifiers & (Modifier.PUBLIC | Modifier.PROTECTED)) == 0);
            for (Method m : c.getDeclaredMethods()) {
                boolean shared = FACE.stream().anyMatch(face -> face.startsWith(m.getName() + "("));
                Checks.holds("no name of the face: " + m, !shared);
            }
        }
    }

    private static void source() throws Exception {
        Checks.part("the source");
        String text = Files.readString(SOURCE);
        String code = text.replaceAll("(?s)/\\*.*?\\*/", "").replaceAll("//[^\n]*", "");
        String[] words = {"throw", "throws", "try", "catch", "synchronized", "assert", "package", "import",
            "transient", "volatile", "native", "protected"};
        for (String word : words) {
            Checks.holds("no " + word, !Pattern.compile("\\b" + word + "\\b").matcher(code).find());
        }
        Checks.holds("no lambda and no method reference", !code.contains("->") && !code.contains("::"));
        Checks.holds("signs 1 to 127 alone", text.chars().allMatch(c -> c >= 1 && c <= 127));
        library(code);
        noObjectsInCalls(code);
        sizesAndDepths(code);
    }

    private static void library(String code) {
        List<String> allowed = Arrays.asList("Math.abs", "Math.min", "System.arraycopy");
        Matcher m = Pattern.compile("\\b(Math|System|Arrays|Integer|Long|Character|Objects)\\.\\w+").matcher(code);
        while (m.find()) {
            Checks.holds("a function that the program needs: " + m.group(), allowed.contains(m.group()));
        }
    }

    // All calls of a run share one room, so objects are made with the system and never by a call.
    private static void noObjectsInCalls(String code) {
        for (String line : code.split("\n")) {
            boolean made = Pattern.compile("\\bnew\\b").matcher(line).find();
            boolean field = line.matches(" *(private )?final .*= new .*;");
            boolean historyRow = line.strip().equals("saved[i] = new State();");
            Checks.holds("made in a constructor: " + line.strip(), !made || field || historyRow);
        }
    }

    private static void sizesAndDepths(String code) {
        Pattern head = Pattern.compile("(?m)^( {4}| {8})(?:\\w+ )*[\\w\\[\\]]+ (\\w+)\\(([^)]*)\\) \\{$");
        Map<String, String> bodies = new TreeMap<>();
        Matcher m = head.matcher(code);
        while (m.find()) {
            String body = code.substring(m.end(), code.indexOf("\n" + m.group(1) + "}", m.end()));
            Checks.holds("at most seven parameters: " + m.group(2), m.group(3).split(",").length <= 7);
            Checks.holds("at most sixty lines: " + m.group(2), body.split("\n").length <= 60);
            Checks.holds("a name of its own, so that its calls are known: " + m.group(2),
                bodies.put(m.group(2), body) == null);
        }
        for (String face : FACE) {
            String name = face.substring(0, face.indexOf('('));
            Checks.holds("found in the source: " + name, bodies.containsKey(name));
            Checks.holds("calls at most eight deep, the library's too: " + name, depth(bodies, name, 0) <= 8);
        }
    }

    /** The calls that are open at once below a method of the source, with the method itself. */
    private static int depth(Map<String, String> bodies, String name, int above) {
        if (above > 20) {
            return 20;
        }
        int deepest = 0;
        Matcher call = Pattern.compile("\\b(Math|System)\\.|\\b(\\w+)\\(").matcher(bodies.get(name));
        while (call.find()) {
            if (call.group(1) != null) {
                deepest = Math.max(deepest, 1);
            } else if (bodies.containsKey(call.group(2))) {
                deepest = Math.max(deepest, depth(bodies, call.group(2), above + 1));
            }
        }
        return 1 + deepest;
    }
}
