import java.io.IOException;
import java.lang.reflect.Method;
import java.lang.reflect.Modifier;
import java.nio.file.Files;
import java.nio.file.Path;
import java.util.HashSet;
import java.util.Set;
import java.util.regex.Matcher;
import java.util.regex.Pattern;
import java.util.stream.Stream;

/** README.md: its run of calls, its text, and that it names each method and each test. */
public final class ReadmeTest {
    private static final Pattern ROW = Pattern.compile("\\| `(\\w+)\\(([^)]*)\\)` \\| (\\w+|-1) \\|.*");

    public static void main(String[] args) throws IOException {
        String readme = Files.readString(Path.of("README.md"));
        run(readme);
        text(readme);
        methods(readme);
        tests(readme);
        Desk.end();
    }

    private static void run(String readme) {
        String section = readme.substring(readme.indexOf("### A run of calls"), readme.indexOf("### Texts"));
        Desk d = new Desk();
        Set<String> called = new HashSet<>();
        for (String line : section.split("\n")) {
            Matcher row = ROW.matcher(line);
            if (row.matches()) {
                called.add(row.group(1));
                Desk.due(line, answer(d, row.group(1), row.group(2)), plain(row.group(3)));
            }
        }
        Desk.due("methods in the run", called.size(), 10);
    }

    private static String answer(Desk d, String method, String arguments) {
        String[] a = arguments.split(", ");
        try {
            return Long.toString(call(d, method, a));
        } catch (RuntimeException e) {
            return e.getClass().getSimpleName();
        }
    }

    private static long call(Desk d, String method, String[] a) {
        switch (method) {
            case "feed":
                return d.feed(Integer.decode(a[0]), Long.decode(a[1]));
            case "read":
                return d.read();
            case "fault":
                return d.fault();
            case "place":
                return d.place();
            case "clear":
                return d.clear();
            case "constants":
                return d.constants();
            case "constant":
                return d.constant(Integer.decode(a[0]), Integer.decode(a[1]));
            case "printed":
                return d.printed();
            case "paper":
                return d.paper(Integer.decode(a[0]));
            case "wipe":
                return d.wipe();
            default:
                throw new IllegalStateException("README.md names a method that is none");
        }
    }

    /** A number in one way of writing it; the name of an exception as it is. */
    private static String plain(String answer) {
        return answer.matches("-?\\d.*") ? Long.toString(Long.decode(answer)) : answer;
    }

    /** The text with a proof is read; the proof is that of its last constant. */
    private static void text(String readme) {
        String behind = readme.substring(readme.indexOf("```text\n") + 8);
        new Desk().reads(5, behind.substring(0, behind.indexOf("```"))).tells(4, 0, 1, 6, 1, 1, 2);
    }

    private static void methods(String readme) {
        for (Method m : ProofReader.class.getDeclaredMethods()) {
            if (Modifier.isPublic(m.getModifiers())) {
                String told = "| `" + m.getReturnType() + " " + m.getName() + "(";
                Desk.due("README.md tells " + m.getName(), readme.contains(told) ? 1 : 0, 1);
            }
        }
    }

    private static void tests(String readme) throws IOException {
        try (Stream<Path> files = Files.list(Path.of("src/test/java"))) {
            for (Path file : (Iterable<Path>) files::iterator) {
                String name = file.getFileName().toString().replace(".java", "");
                Desk.due("README.md tells " + name, readme.contains("`" + name + "`") ? 1 : 0, 1);
            }
        }
    }
}
