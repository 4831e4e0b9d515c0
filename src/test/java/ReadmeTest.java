import java.io.IOException;
import java.nio.file.Files;
import java.nio.file.Path;
import java.util.ArrayList;
import java.util.List;
import java.util.regex.Matcher;
import java.util.regex.Pattern;

/**
 * README.md's table of methods: it has each method of the class, as it is declared, and for each
 * answer that stands under 'if there is none such' the page shows a call that gives it. (Whether
 * the calls give these answers is asked by the test that ReadmeCalls makes.)
 */
public final class ReadmeTest {
    private static final Path PAGE = Path.of("README.md");
    private static final Path FILE = Path.of("src/main/java/ProvenanceRows.java");
    private static final Pattern DECLARED =
            Pattern.compile("(?m)^    public ((?:int|boolean) \\w+\\(.*\\)) \\{$");
    private static final Pattern ROW =
            Pattern.compile("(?m)^\\| `((?:int|boolean) (\\w+)\\(.*?\\))` \\|.*\\| (.*?) \\|$");
    private static final Pattern ANSWER = Pattern.compile("`(-?\\d+|true|false|NONE)`");

    private static int wrong = 0;

    public static void main(String[] args) throws IOException {
        tableHasEveryMethod();
        everyRefusalIsShown();
        System.out.println("README.md: " + wrong + " not as due");
        if (wrong != 0) {
            System.exit(1);
        }
    }

    private static void due(boolean right, String what) {
        if (!right) {
            wrong++;
            System.out.println("README.md, not as due: " + what);
        }
    }

    private static List<String> firstGroups(Pattern pattern, Path file) throws IOException {
        List<String> found = new ArrayList<>();
        Matcher m = pattern.matcher(Files.readString(file));
        while (m.find()) {
            found.add(m.group(1));
        }
        return found;
    }

    private static void tableHasEveryMethod() throws IOException {
        List<String> declared = firstGroups(DECLARED, FILE);
        List<String> told = firstGroups(ROW, PAGE);
        due(declared.size() == 17, "methods found in " + FILE + ": " + declared);
        due(told.equals(declared), "its table has " + told + ", the class " + declared);
    }

    private static void everyRefusalIsShown() throws IOException {
        List<ReadmeCalls.Shown> calls = ReadmeCalls.read(PAGE).calls();
        Matcher row = ROW.matcher(Files.readString(PAGE));
        while (row.find()) {
            String method = row.group(2);
            Matcher answer = ANSWER.matcher(row.group(3));
            due(answer.find(), method + " without an answer if there is none such");
            String refusal = answer.reset().find() ? answer.group(1) : "";
            due(isShown(calls, method, refusal, true), method + " is not shown with " + refusal);
            due(isShown(calls, method, refusal, false), method + " is shown with nothing else");
        }
    }

    private static boolean isShown(List<ReadmeCalls.Shown> calls, String method, String answer,
            boolean withIt) {
        return calls.stream().anyMatch(shown ->
                shown.method().equals(method) && shown.answer().equals(answer) == withIt);
    }
}
