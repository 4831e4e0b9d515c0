import java.io.IOException;
import java.nio.file.Files;
import java.nio.file.Path;
import java.util.ArrayList;
import java.util.List;
import java.util.regex.Matcher;
import java.util.regex.Pattern;

/**
 * Makes a test out of README.md: its java blocks, one after another, are one run, in which each
 * call must give the answer that the comment beside it begins with. So the page is compiled and
 * run as it stands, and a line that is neither a call with its answer nor a new object is refused.
 *
 * <p>Use: java ReadmeCalls README.md where/to/write/ReadmeCallsTest.java
 */
final class ReadmeCalls {
    private static final Pattern NEW_OBJECT =
            Pattern.compile("ProvenanceRows rows = new ProvenanceRows\\(\\);( *//.*)?");
    private static final Pattern CALL = Pattern.compile(
            "(?:int (\\w+) = )?(rows\\.(\\w+)\\([^\"\\\\;]*\\)); *// (-?\\d+|true|false|NONE)(: .*)?");

    /** A call as the page shows it; variable is null if its answer isn't kept. */
    record Shown(int line, String variable, String call, String method, String answer) {
    }

    private final List<Shown> calls = new ArrayList<>();
    private final List<String> refused = new ArrayList<>();
    private final StringBuilder body = new StringBuilder();

    private ReadmeCalls() {
    }

    static ReadmeCalls read(Path page) throws IOException {
        ReadmeCalls readme = new ReadmeCalls();
        List<String> lines = Files.readAllLines(page);
        boolean inBlock = false;
        for (int k = 0; k < lines.size(); k++) {
            String text = lines.get(k).strip();
            if (text.startsWith("```")) {
                inBlock = text.equals("```java");
            } else if (inBlock && !text.isEmpty()) {
                readme.take(k + 1, text);
            }
        }
        return readme;
    }

    private void take(int line, String text) {
        Matcher call = CALL.matcher(text);
        if (call.matches()) {
            add(new Shown(line, call.group(1), call.group(2), call.group(3), call.group(4)));
        } else if (NEW_OBJECT.matcher(text).matches()) {
            body.append("        ProvenanceRows rows = new ProvenanceRows();\n");
        } else {
            refused.add("README.md:" + line + ": no call with its answer: " + text);
        }
    }

    private void add(Shown shown) {
        calls.add(shown);
        String got = shown.call();
        if (shown.variable() != null) {
            body.append("        int ").append(shown.variable()).append(" = ").append(got)
                    .append(";\n");
            got = shown.variable();
        }
        body.append("        due(").append(shown.line()).append(", \"").append(shown.call())
                .append("\", ").append(got).append(", ").append(shown.answer()).append(");\n");
    }

    List<Shown> calls() {
        return calls;
    }

    private String asTest(String className) {
        return """
                public final class %s {
                    private static final int NONE = ProvenanceRows.NONE;
                    private static int wrong = 0;

                    private static void due(int line, String call, Object got, Object want) {
                        if (!got.equals(want)) {
                            wrong++;
                            System.out.println("README.md:" + line + ": " + call + " answered "
                                    + got + ", README.md says " + want);
                        }
                    }

                    public static void main(String[] args) {
                %s
                        System.out.println("%d calls shown, " + wrong + " not as README.md says");
                        if (wrong != 0) {
                            System.exit(1);
                        }
                    }
                }
                """.formatted(className, body, calls.size());
    }

    public static void main(String[] args) throws IOException {
        ReadmeCalls readme = read(Path.of(args[0]));
        readme.refused.forEach(System.out::println);
        if (!readme.refused.isEmpty() || readme.calls.isEmpty()) {
            System.out.println("README.md makes no test");
            System.exit(1);
        }
        Path test = Path.of(args[1]);
        String className = test.getFileName().toString().replace(".java", "");
        Files.writeString(test, readme.asTest(className));
    }
}
