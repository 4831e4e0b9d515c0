import java.io.IOException;
import java.lang.reflect.Constructor;
import java.lang.reflect.Field;
import java.lang.reflect.Method;
import java.lang.reflect.Modifier;
import java.nio.file.Files;
import java.nio.file.Path;
import java.util.Set;
import java.util.TreeSet;
import java.util.regex.Matcher;
import java.util.regex.Pattern;

/** The public face of the document, and those rules of LANGUAGE.md that a program can look at. */
public final class FaceTest {
    private static final Path FILE = Path.of("src/main/java/ProvenanceRows.java");

    private static final Set<String> FACE = Set.of(
            "source(long, int, int): int", "fetched(int, boolean): boolean",
            "artefact(long, int, int, int, int): int", "uses(int, int): boolean",
            "needs(int, long): boolean", "path(int, int, long): boolean", "policy(int, int): int",
            "verdict(int): int", "culprit(): int", "breaks(int, int): boolean", "closure(int): int",
            "at(int): int", "holds(long, int): int", "missing(int, int): int",
            "rebuilt(int, int): int", "differ(int, int): int", "clash(int, int): int");

    private static final String[] NOT_IN_THE_FILE = {
        "\\b(throw|throws|try|catch|finally|synchronized|assert)\\b", "\\b(import|package)\\b",
        "->", "::", "\\bsuper\\b", "\\bprotected\\b", "\\bObject\\b", "\\bSystem\\b", "static \\{"};

    private static int wrong = 0;

    public static void main(String[] args) throws IOException {
        methodsAreTheFace();
        theRestIsPrivate();
        fileKeepsToTheLanguage();
        System.out.println("the face and the file: " + wrong + " not as due");
        if (wrong != 0) {
            System.exit(1);
        }
    }

    private static void due(boolean right, String what) {
        if (!right) {
            wrong++;
            System.out.println("not as due: " + what);
        }
    }

    private static String faceOf(Method m) {
        StringBuilder text = new StringBuilder(m.getName()).append('(');
        for (Class<?> type : m.getParameterTypes()) {
            text.append(text.charAt(text.length() - 1) == '(' ? "" : ", ").append(type.getName());
        }
        return text.append("): ").append(m.getReturnType().getName()).toString();
    }

    private static void methodsAreTheFace() {
        Set<String> found = new TreeSet<>();
        Set<String> names = new TreeSet<>();
        for (Method m : ProvenanceRows.class.getDeclaredMethods()) {
            if (Modifier.isPublic(m.getModifiers())) {
                found.add(faceOf(m));
                names.add(m.getName());
                due(!Modifier.isStatic(m.getModifiers()), "static " + m);
            }
        }
        due(found.equals(FACE), "the public methods " + found);
        for (Method m : ProvenanceRows.class.getDeclaredMethods()) {
            boolean isPublic = Modifier.isPublic(m.getModifiers());
            due(isPublic || Modifier.isPrivate(m.getModifiers()), "open to others: " + m);
            due(isPublic || !names.contains(m.getName()), "a public one's name: " + m);
        }
    }

    private static void theRestIsPrivate() {
        int modifiers = ProvenanceRows.class.getModifiers();
        due(Modifier.isPublic(modifiers) && Modifier.isFinal(modifiers), "a public final class");
        Constructor<?>[] constructors = ProvenanceRows.class.getDeclaredConstructors();
        due(constructors.length == 1 && constructors[0].getParameterCount() == 0
                && Modifier.isPublic(constructors[0].getModifiers()), "one constructor");
        for (Field f : ProvenanceRows.class.getDeclaredFields()) {
            boolean constant = f.getName().equals("NONE") && Modifier.isPublic(f.getModifiers());
            due(constant || Modifier.isPrivate(f.getModifiers()), "open to others: " + f);
            dueFinalIfStatic(f);
        }
        for (Class<?> inside : ProvenanceRows.class.getDeclaredClasses()) {
            due(Modifier.isStatic(inside.getModifiers()), "not static: " + inside);
            due(!Modifier.isPublic(inside.getModifiers()), "public: " + inside);
            for (Field f : inside.getDeclaredFields()) {
                dueFinalIfStatic(f);
            }
        }
    }

    private static void dueFinalIfStatic(Field f) {
        boolean isStatic = Modifier.isStatic(f.getModifiers());
        due(!isStatic || Modifier.isFinal(f.getModifiers()), "static, but not final: " + f);
    }

    private static void fileKeepsToTheLanguage() throws IOException {
        String code = Files.readString(FILE).replaceAll("(?s)/\\*.*?\\*/|//[^\n]*", "");
        for (String word : NOT_IN_THE_FILE) {
            Matcher m = Pattern.compile(word).matcher(code);
            due(!m.find(), word + " stands in " + FILE);
        }
    }
}
