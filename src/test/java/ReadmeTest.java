import java.io.IOException;
import java.nio.file.Files;
import java.nio.file.Path;
import java.util.ArrayList;
import java.util.List;
import java.util.Set;
import java.util.TreeSet;
import java.util.regex.Matcher;
import java.util.regex.Pattern;
import java.util.stream.Stream;

/**
 * What README.md shows: every call of its runs is asked of the class and of the plain reading of
 * the document, and both must answer what stands behind it; so with what it says of refused
 * calls, of telling calls and of the tests.
 */
public final class ReadmeTest {
    private static final int CALLS = 512;
    private static final List<String> RUNS_IN = List.of("1 Sides", "2 Shares", "3 Voters", "4 Claims",
            "5 A tree and a market", "How a fraction is told", "What a refused call answers");
    private static final String MADE = "WonTogether x = new WonTogether();";
    private static final Pattern CALL = Pattern.compile("x\\.(\\w+)\\(([^)]*)\\); +// (-?\\d+)(: .+)?");
    private static final Pattern NUMBER = Pattern.compile("-?\\d+");

    private final String text;
    private final Set<String> shown = new TreeSet<>();

    private ReadmeTest(String text) {
        this.text = text;
    }

    private static Call find(String name) {
        for (Call call : Call.ALL) {
            if (call.name().equals(name)) {
                return call;
            }
        }
        return null;
    }

    /** The texts under each heading, the headings first. */
    private List<String[]> sections() {
        List<String[]> found = new ArrayList<>();
        for (String section : text.split("(?m)^#+ ")) {
            int end = section.indexOf('\n');
            if (end >= 0) {
                found.add(new String[] {section.substring(0, end), section.substring(end)});
            }
        }
        return found;
    }

    private void runAll() {
        Set<String> silent = new TreeSet<>(RUNS_IN);
        for (String[] section : sections()) {
            Matcher m = Pattern.compile("(?s)```java\n(.*?)```").matcher(section[1]);
            while (m.find()) {
                run(section[0], m.group(1).split("\n"));
                silent.remove(section[0]);
            }
        }
        Due.holds("no run in " + silent, silent.isEmpty());
        for (Call call : Call.ALL) {
            Due.holds(call.name() + " is shown", shown.contains(call.name()));
        }
    }

    private void run(String section, String[] lines) {
        Due.holds(section + " begins on a new object", lines[0].equals(MADE));
        Due.holds(section + " is short", lines.length - 1 <= CALLS);
        WonTogether x = new WonTogether();
        Plain plain = new Plain();
        for (int k = 1; k < lines.length; k++) {
            Due.during(section + ", " + lines[k].replaceAll(" *//.*", "") + ": ");
            ask(x, plain, lines[k]);
        }
        Due.during("");
    }

    private void ask(WonTogether x, Plain plain, String line) {
        Matcher m = CALL.matcher(line);
        Call call = m.matches() ? find(m.group(1)) : null;
        Due.holds("a call and its answer", call != null);
        if (call == null) {
            return;
        }
        int[] given = numbers(call, m.group(2));
        long due = Long.parseLong(m.group(3));
        Due.is("the class", call.on(x, given), due);
        // The plain reading counts the methods from 0 on, the promises those from 2 on.
        Due.is("the plain reading", plain.call(call.promise() - 2, given[0], given[1], given[2]), due);
        shown.add(call.name());
    }

    private static int[] numbers(Call call, String told) {
        String[] parts = told.isEmpty() ? new String[0] : told.replace("WonTogether.NONE", "-1").split(", ");
        Due.is("so many numbers", parts.length, call.numbers());
        int[] given = new int[3];
        for (int k = 0; k < parts.length && k < given.length; k++) {
            Due.holds("a number: " + parts[k], NUMBER.matcher(parts[k]).matches());
            given[k] = NUMBER.matcher(parts[k]).matches() ? Integer.parseInt(parts[k]) : 0;
        }
        return given;
    }

    private String between(String from, String to) {
        int start = text.indexOf(from);
        int end = start < 0 ? -1 : text.indexOf(to, start);
        Due.holds("it says: " + from, end >= 0);
        return end < 0 ? "" : text.substring(start, end);
    }

    private static Set<String> names(String part) {
        Set<String> found = new TreeSet<>();
        Matcher m = Pattern.compile("`(\\w+)`").matcher(part);
        while (m.find()) {
            found.add(m.group(1));
        }
        return found;
    }

    /** Just the calls that the page names can leave another fraction. */
    private void tellingCalls() {
        Set<String> telling = new TreeSet<>();
        for (Call call : Call.ALL) {
            WonTogether x = Samples.some();
            long above = x.part(0);
            long below = x.part(1);
            call.onFitting(x);
            if (x.part(0) != above || x.part(1) != below) {
                telling.add(call.name());
            }
        }
        Set<String> said = names(between("Such calls are ", "."));
        Due.holds("telling calls: " + telling + ", said: " + said, telling.equals(said));
    }

    /** Each row of the table: what a wrong number is answered by, and the calls. */
    private void refusedCalls() {
        Set<String> told = new TreeSet<>();
        Matcher m = Pattern.compile("(?m)^\\| (-\\d+) \\| (.*) \\|$").matcher(text);
        while (m.find()) {
            for (String name : names(m.group(2))) {
                Call call = find(name);
                Due.holds("once in the table: " + name, call != null && call.numbers() > 0 && told.add(name));
                if (call != null) {
                    Due.is(name + " refused", call.on(Samples.some(), lowest()), Long.parseLong(m.group(1)));
                }
            }
        }
        Set<String> never = names(between("`core`, `held`", " are never refused"));
        for (Call call : Call.ALL) {
            Set<String> due = call.numbers() > 0 ? told : never;
            Due.holds("told of: " + call.name(), due.contains(call.name()));
        }
        Due.is("never refused", never.size(), Call.ALL.size() - told.size());
    }

    private static int[] lowest() {
        return new int[] {Integer.MIN_VALUE, Integer.MIN_VALUE, Integer.MIN_VALUE};
    }

    /** Each test is told of, and what is told of is there. */
    private void testsOfThePage() throws IOException {
        Set<String> files = new TreeSet<>();
        try (Stream<Path> all = Files.list(Path.of("src/test/java"))) {
            all.forEach(file -> files.add(file.getFileName().toString().replace(".java", "")));
        }
        Set<String> told = names(text);
        for (String file : files) {
            Due.holds("told of: " + file, !file.endsWith("Test") || told.contains(file));
        }
        for (String name : told) {
            Due.holds("there is a " + name, !name.matches("\\w+(Test|Edges)") || files.contains(name));
        }
        Due.holds("how to run the tests", text.contains("\nbash .ci/run\n") && Files.exists(Path.of(".ci/run")));
    }

    public static void main(String[] args) throws IOException {
        ReadmeTest page = new ReadmeTest(Files.readString(Path.of("README.md")));
        page.runAll();
        page.tellingCalls();
        page.refusedCalls();
        page.testsOfThePage();
        Due.end("ReadmeTest");
    }
}
