import java.io.IOException;
import java.lang.reflect.Method;
import java.lang.reflect.Modifier;
import java.nio.file.Files;
import java.nio.file.Path;
import java.util.ArrayList;
import java.util.List;
import java.util.Set;
import java.util.TreeSet;
import java.util.regex.Matcher;
import java.util.regex.Pattern;

/** Those rules of ../shared/LANGUAGE.md that the words of the source and the face of the class show. */
public final class LanguageTest {
    private static final Checks checks = new Checks("language");

    public static void main(String[] args) throws IOException {
        String source = Files.readString(Path.of("src/main/java/PennyQueue.java"));
        String code = source.replaceAll("(?s)/\\*.*?\\*/", " ").replaceAll("//[^\n]*", " ")
            .replaceAll("\"[^\"\n]*\"", "\"\"").replaceAll("'[^'\n]+'", "' '");
        for (String word : List.of("throw", "throws", "try", "catch", "finally", "synchronized", "assert",
            "volatile", "native", "System.out", "equals", "hashCode", "toString",
            "Exact", "random", "nanoTime", "currentTimeMillis", "Thread", "package")) {
            checks.due("'" + word + "'", found(code, "\\b" + Pattern.quote(word) + "\\b"), 0);
        }
        checks.due("lambdas, references, annotations", found(code, "->|::|@"), 0);
        checks.due("imports beside what the rules list",
            found(code, "\\bimport (?!java\\.util\\.(?:Arrays|ArrayList|List|Iterator);)"), 0);
        checks.due("static that is not final", found(code, "\\bstatic (?!final |class |\\w+(?:\\[\\])* \\w+\\()"), 0);
        checks.due("at most 12 classes", found(code, "\\bclass \\w+") <= 12 ? 1 : 0, 1);
        face();
        longMethods(code);
        checks.end();
    }

    private static int found(String code, String pattern) {
        Matcher m = Pattern.compile(pattern).matcher(code);
        int n = 0;
        while (m.find()) {
            n++;
        }
        return n;
    }

    private static void face() {
        Set<String> open = new TreeSet<>();
        List<Class<?>> classes = new ArrayList<>(List.of(PennyQueue.class.getDeclaredClasses()));
        for (Method m : PennyQueue.class.getDeclaredMethods()) {
            if (Modifier.isPublic(m.getModifiers())) {
                open.add(m.getName());
            }
            checks.due(m.getName() + " is public or private",
                m.getModifiers() & (Modifier.PUBLIC | Modifier.PRIVATE), Modifier.isPublic(m.getModifiers()) ? 1 : 2);
        }
        checks.due("methods of the face", open.size(), 32);
        classes.add(PennyQueue.class);
        for (Class<?> c : classes) {
            for (Method m : c.getDeclaredMethods()) {
                boolean hidden = !Modifier.isPublic(m.getModifiers());
                checks.due(c.getName() + "." + m.getName() + " bears a public name", hidden && open.contains(m.getName()) ? 1 : 0, 0);
                checks.due(c.getName() + "." + m.getName() + ", parameters", m.getParameterCount() <= 7 ? 1 : 0, 1);
            }
        }
    }

    private static void longMethods(String code) {
        Matcher m = Pattern.compile("(?m)^( +)[\\w\\[\\] ]+\\([^;{}]*\\) \\{$[\\s\\S]*?^\\1\\}$").matcher(code);
        int methods = 0;
        while (m.find()) {
            methods++;
            long lines = m.group().lines().count();
            checks.due("lines of " + m.group().lines().findFirst().orElse(""), lines <= 60 ? 1 : 0, 1);
        }
        checks.due("methods seen", methods > 40 ? 1 : 0, 1);
    }
}
