import java.io.IOException;
import java.lang.reflect.Constructor;
import java.lang.reflect.Field;
import java.lang.reflect.Method;
import java.lang.reflect.Modifier;
import java.nio.file.Files;
import java.nio.file.Path;
import java.util.Arrays;
import java.util.Map;
import java.util.Set;
import java.util.TreeMap;
import java.util.TreeSet;
import java.util.regex.Matcher;
import java.util.regex.Pattern;

/** The public face, and those rules of LANGUAGE.md that the text or the class shows. */
public final class FaceTest {
    private static final String[] FACE = {"int sides(int)", "int worth(int,int)", "int dividend(int)",
        "int margin(int,int)", "int value(int,int)", "int fails(int)", "int parting(int)",
        "long part(int)", "int least(int)", "int core()", "int end(int,int)", "int calm(int)",
        "int give(int,int,int)", "int complaint(int,int)", "int surplus(int,int,int)",
        "int even(int)", "int better(int)", "int voter(int)", "int weight(int,int)", "int quota(int)",
        "int wins(int)", "int minimal(int)", "int power(int,int)", "int deegan(int)", "int same(int)",
        "int claim(int)", "int estate(int)", "int award(int,int)", "int place(int,int)",
        "int user(int)", "int alone(int)", "int paid(int)", "int pay(int,int)", "int held()",
        "int market(int,int)", "int gain(int,int,int)", "int most(int)", "int price(int,int)",
        "int tell(int,int)", "int clear()", "int count(int)", "long digest()"};
    private static final String[] FORBIDDEN = {"throw", "throws", "try", "catch", "synchronized",
        "assert", "import", "package", "native", "volatile", "transient", "Exact", "System.out",
        "hashCode", "equals", "toString", "->", "::", "protected", "@"};
    private static final int LONGEST_METHOD = 60;

    private FaceTest() {
    }

    private static boolean isOpen(int modifiers) {
        return !Modifier.isPrivate(modifiers);
    }

    private static Set<String> openMethods() {
        Set<String> found = new TreeSet<>();
        for (Method m : WonTogether.class.getDeclaredMethods()) {
            if (isOpen(m.getModifiers())) {
                StringBuilder text = new StringBuilder();
                for (Class<?> type : m.getParameterTypes()) {
                    text.append(text.length() == 0 ? "" : ",").append(type.getName());
                }
                boolean plain = m.getModifiers() == Modifier.PUBLIC;
                found.add((plain ? "" : "not plain ") + m.getReturnType() + " " + m.getName() + "(" + text + ")");
            }
        }
        return found;
    }

    private static void faceIsWhole() {
        Set<String> open = openMethods();
        Set<String> due = new TreeSet<>(Arrays.asList(FACE));
        Due.holds("methods " + open, open.equals(due));
        Constructor<?>[] made = WonTogether.class.getDeclaredConstructors();
        Due.is("constructors", made.length, 1);
        Due.is("constructor's numbers", made[0].getParameterCount(), 0);
        Due.is("constructor", made[0].getModifiers(), Modifier.PUBLIC);
        Due.is("class", WonTogether.class.getModifiers(), Modifier.PUBLIC | Modifier.FINAL);
        Set<String> constants = new TreeSet<>();
        for (Field f : WonTogether.class.getDeclaredFields()) {
            if (isOpen(f.getModifiers())) {
                constants.add(f.getName());
                Due.is(f.getName(), f.getModifiers(), Modifier.PUBLIC | Modifier.STATIC | Modifier.FINAL);
            }
            Due.holds("final if static: " + f.getName(),
                    !Modifier.isStatic(f.getModifiers()) || Modifier.isFinal(f.getModifiers()));
        }
        Due.holds("constants " + constants, constants.equals(Set.of("NONE", "BAD", "NO", "FULL")));
    }

    private static void insideClassesArePlain() {
        Set<String> names = new TreeSet<>();
        for (String method : FACE) {
            names.add(method.replaceAll("^\\w+ |\\(.*", ""));
        }
        Class<?>[] inside = WonTogether.class.getDeclaredClasses();
        Due.holds("some twelve classes", inside.length < 12);
        for (Class<?> c : inside) {
            Due.holds("static: " + c, Modifier.isStatic(c.getModifiers()));
            Due.holds("private: " + c, Modifier.isPrivate(c.getModifiers()));
            Due.holds("some twenty fields: " + c, c.getDeclaredFields().length <= 20);
            for (Method m : c.getDeclaredMethods()) {
                checkInner(m, names);
            }
        }
        for (Method m : WonTogether.class.getDeclaredMethods()) {
            if (!isOpen(m.getModifiers())) {
                checkInner(m, names);
            }
        }
    }

    private static void checkInner(Method m, Set<String> names) {
        Due.holds("a name of its own: " + m, !names.contains(m.getName()));
        Due.holds("seven at most: " + m, m.getParameterCount() <= 7);
    }

    /** The text without its comments; there are no texts in quotes in it. */
    private static String code() throws IOException {
        String text = Files.readString(Path.of("src/main/java/WonTogether.java"));
        Due.holds("no quotes", text.replaceAll("(?s)/\\*.*?\\*/", "").replaceAll("//[^\n]*", "").indexOf('"') < 0);
        Due.holds("plain signs", text.chars().allMatch(c -> c == '\n' || c >= 32 && c < 127));
        return text.replaceAll("(?s)/\\*.*?\\*/", "").replaceAll("//[^\n]*", "");
    }

    private static void codeKeepsToTheLanguage(String code) {
        for (String word : FORBIDDEN) {
            String sought = Character.isLetter(word.charAt(0)) ? "\\b\\w*" + Pattern.quote(word) + "\\b" : Pattern.quote(word);
            if (word.equals("try") || word.equals("package")) {
                sought = "\\b" + word + "\\b";
            }
            Matcher m = Pattern.compile(sought).matcher(code);
            Due.holds("no " + word, !m.find());
        }
        // What is made is made with the object, so that no call takes room.
        for (String line : code.split("\n")) {
            boolean makes = Pattern.compile("\\bnew\\b").matcher(line).find();
            boolean field = line.trim().startsWith("private final") || line.trim().startsWith("new Fraction(), ");
            Due.holds("made with the object: " + line.trim(), !makes || field);
            Due.holds("a bound: " + line.trim(), !line.contains("while (true)") && !line.contains("for (;"));
        }
    }

    private static void methodsAreShort(String code) {
        int from = -1;
        String[] lines = code.split("\n");
        for (int k = 0; k < lines.length; k++) {
            if (lines[k].matches(" +(public|private) .*\\) \\{")) {
                from = k;
            } else if (from >= 0 && lines[k].equals(lines[from].replaceAll("\\S.*", "") + "}")) {
                Due.holds("short: " + lines[from].trim(), k - from < LONGEST_METHOD);
                from = -1;
            }
        }
    }

    /** Which methods a method's text calls, by names: those that bear one name count as one. */
    private static Map<String, Set<String>> calls(String code) {
        Map<String, Set<String>> found = new TreeMap<>();
        Matcher m = Pattern.compile("(?m)^( +)(?:public|private)(?: static)? [\\w\\[\\]]+ (\\w+)\\(.*\\{$"
                + "\\n([\\s\\S]*?)^\\1\\}$").matcher(code);
        while (m.find()) {
            Matcher called = Pattern.compile("\\b(\\w+)\\(").matcher(m.group(3));
            Set<String> names = found.computeIfAbsent(m.group(2), name -> new TreeSet<>());
            while (called.find()) {
                names.add(called.group(1));
            }
        }
        return found;
    }

    /** How many calls stand open at most; an unending chain counts as far too many. */
    private static int depth(Map<String, Set<String>> calls, String name, int open) {
        int deepest = 1;
        for (String next : calls.getOrDefault(name, Set.of())) {
            if (open < 40 && !next.matches("if|for|while|switch")) {
                deepest = Math.max(deepest, 1 + depth(calls, next, open + 1));
            }
        }
        return deepest;
    }

    private static void callsStayShallow(String code) {
        Map<String, Set<String>> calls = calls(code);
        for (String method : FACE) {
            String name = method.replaceAll("^\\w+ |\\(.*", "");
            Due.holds("found: " + name, calls.containsKey(name));
            int depth = depth(calls, name, 0);
            Due.holds(name + " goes " + depth + " deep", depth <= 8);
        }
    }

    /** The face as the document writes it: the same lines in the same order, and by promises. */
    private static void faceIsTheDocuments() throws IOException {
        Path place = Path.of("../shared/DOC.md");
        if (!Files.exists(place)) {
            System.out.println("no " + place + ": the face is not held against it");
            return;
        }
        String document = Files.readString(place);
        String text = Files.readString(Path.of("src/main/java/WonTogether.java"));
        int at = 0;
        int lines = 0;
        Matcher line = Pattern.compile("(?m)^ *(public .*?)(;| \\{)$").matcher(document);
        while (line.find()) {
            String due = line.group(1) + (line.group(1).endsWith(")") ? " {" : line.group(2));
            int found = text.indexOf(due, at);
            Due.holds("in the document's order: " + due, found >= 0);
            at = Math.max(at, found);
            lines++;
        }
        Due.is("lines of the face", lines, FACE.length + 3);
        Matcher promise = Pattern.compile("(?m)^## Promise (\\d+): (\\w+)\\n\\n`(\\w+ .*?)`:").matcher(document);
        for (int k = 2; promise.find(); k++) {
            Due.is("promises with a call, in order", Integer.parseInt(promise.group(1)), k);
            Due.is("its place in the face", FACE[k - 2].indexOf(" " + promise.group(2) + "("), FACE[k - 2].indexOf(' '));
            Due.holds("its words: " + promise.group(3), text.contains("public " + promise.group(3) + " {"));
        }
    }

    /** What the document says stands ahead of some calls stands there, ahead of the first. */
    private static void groupsAreNamed() throws IOException {
        String text = Files.readString(Path.of("src/main/java/WonTogether.java"));
        String[] names = {"worths", "shares", "votes", "claims", "trees, markets"};
        String[] first = {"sides", "least", "voter", "claim", "place"};
        for (int k = 0; k < names.length; k++) {
            Due.holds("ahead of " + first[k] + ": " + names[k],
                    text.contains("    // ---- " + names[k] + "\n\n    public int " + first[k] + "("));
        }
    }

    public static void main(String[] args) throws IOException {
        faceIsWhole();
        faceIsTheDocuments();
        groupsAreNamed();
        insideClassesArePlain();
        String code = code();
        codeKeepsToTheLanguage(code);
        methodsAreShort(code);
        callsStayShallow(code);
        Due.end("FaceTest");
    }
}
