import java.io.IOException;
import java.lang.reflect.Constructor;
import java.lang.reflect.Field;
import java.lang.reflect.Method;
import java.lang.reflect.Modifier;
import java.nio.file.Files;
import java.nio.file.Path;
import java.util.HashSet;
import java.util.Set;
import java.util.regex.Matcher;
import java.util.regex.Pattern;

/** What of ../shared/LANGUAGE.md can be seen from the source and the face of the class. */
public final class LanguageTest {
    private static final String[] FORBIDDEN = {
        "\\bthrow\\b", "\\btry\\b", "\\bcatch\\b", "\\bsynchronized\\b", "\\bassert\\b", "\\bpackage\\b", "->", "::",
        "\\bprotected\\b", "\\binstanceof\\b", "Exact\\b", "\\bhashCode\\b", "\\bequals\\b", "\\btoString\\b",
        "\\bSystem\\.(?!arraycopy\\b)", "\\bThread\\b", "\\bRandom\\b", "\\bwhile \\(true\\)", "\\bfor \\(;", "\\bvar\\b",
        "[^\\x00-\\x7f]"};

    private LanguageTest() {
    }

    public static void main(String[] args) throws IOException {
        String source = Files.readString(Path.of("src/main/java/RoundPoint.java"));
        String code = source.replaceAll("(?s)/\\*.*?\\*/", "").replaceAll("//[^\n]*", "");
        for (String word : FORBIDDEN) {
            Due.is("rules 2, 6, 13: " + word, found(word, code), 0);
        }
        Due.is("rule 4: one import", found("(?m)^import ", code), 1);
        Due.is("rule 4: of Arrays", found("(?m)^import java\\.util\\.Arrays;", code), 1);
        Due.is("rule 12: objects and rows are made with the object alone", found("\\bnew\\b", code), madeWithTheObject(code));
        face();
        sizes();
        methodLengths(code);
        Due.end();
    }

    private static int found(String word, String code) {
        Matcher m = Pattern.compile(word).matcher(code);
        int n = 0;
        while (m.find()) {
            n++;
        }
        return n;
    }

    private static int madeWithTheObject(String code) {
        return found("(?m)^ *(private )?final [^;(]*= new\\b", code) + found("shelves\\[i\\] = new Shelf\\(\\);", code);
    }

    private static void face() {
        Set<String> open = new HashSet<>();
        for (Method m : RoundPoint.class.getDeclaredMethods()) {
            if (Modifier.isPublic(m.getModifiers())) {
                open.add(m.getName());
            } else {
                Due.is("rule 1: private " + m.getName(), m.getModifiers() & Modifier.PRIVATE, Modifier.PRIVATE);
            }
        }
        for (Method m : RoundPoint.class.getDeclaredMethods()) {
            if (!Modifier.isPublic(m.getModifiers())) {
                Due.is("rule 1: a name of its own: " + m.getName(), open.contains(m.getName()) ? 1 : 0, 0);
            }
        }
        Due.is("rule 1: methods of the face", open.size(), 41);
        int constants = 0;
        for (Field f : RoundPoint.class.getDeclaredFields()) {
            if (Modifier.isPublic(f.getModifiers())) {
                constants++;
            } else {
                Due.is("rule 1: private " + f.getName(), f.getModifiers() & Modifier.PRIVATE, Modifier.PRIVATE);
            }
        }
        Due.is("rule 1: constants of the face", constants, 5);
        Constructor<?>[] made = RoundPoint.class.getConstructors();
        Due.is("rule 1: one constructor", made.length, 1);
        Due.is("rule 1: public and final", RoundPoint.class.getModifiers(), Modifier.PUBLIC | Modifier.FINAL);
    }

    private static void sizes() {
        Class<?>[] inside = RoundPoint.class.getDeclaredClasses();
        Due.is("rule 11: some twelve classes", inside.length < 12 ? 1 : 0, 1);
        for (Class<?> c : inside) {
            Due.is("rule 2: static " + c.getName(), c.getModifiers() & Modifier.STATIC, Modifier.STATIC);
            int fields = 0;
            for (Field f : c.getDeclaredFields()) {
                boolean shared = Modifier.isStatic(f.getModifiers());
                fields += shared ? 0 : 1;
                Due.is("rule 5: final " + f.getName(), shared && !Modifier.isFinal(f.getModifiers()) ? 1 : 0, 0);
            }
            Due.is("rule 11: some twenty fields in " + c.getName(), fields <= 20 ? 1 : 0, 1);
            for (Method m : c.getDeclaredMethods()) {
                Due.is("rule 11: parameters of " + m.getName(), m.getParameterCount() <= 7 ? 1 : 0, 1);
            }
        }
    }

    private static void methodLengths(String code) {
        int lines = 0;
        for (String line : code.split("\n")) {
            boolean begins = line.matches("( {4}| {8})[A-Za-z].*\\) \\{");
            lines = begins ? 0 : lines + 1;
            Due.is("rule 11: a long method at " + line, line.matches("( {4}| {8})\\}") && lines > 60 ? 1 : 0, 0);
            if (line.matches("( {4}| {8})\\}")) {
                lines = 0;
            }
        }
    }
}
