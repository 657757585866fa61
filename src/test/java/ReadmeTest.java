import java.io.IOException;
import java.lang.reflect.Method;
import java.nio.file.Files;
import java.nio.file.Path;
import java.util.Set;
import java.util.TreeSet;
import java.util.regex.MatchResult;
import java.util.regex.Pattern;

/** README.md agrees with what lies there: the calls of the face, the answers of its example, the tests. */
public final class ReadmeTest {
    private static final Checks checks = new Checks("readme");

    public static void main(String[] args) throws IOException, ReflectiveOperationException {
        String readme = Files.readString(Path.of("README.md"));
        String face = Files.readString(Path.of("../shared/DOC.md"));
        same("a call", found(readme, "(?m)^\\| `(\\w+\\([\\w, ]*\\))` \\|"), calls(face));
        checks.due("calls", calls(face).size(), 32);
        same("a test", found(readme, "(?m)^\\| `(\\w+Test)` \\|"), tests());
        checks.due("the example's calls that tell an answer", example(readme) >= 10 ? 1 : 0, 1);
        checks.end();
    }

    private static void same(String what, Set<String> told, Set<String> there) {
        for (String one : there) {
            checks.due(what + " that README does not tell: " + one, told.contains(one) ? 1 : 0, 1);
        }
        for (String one : told) {
            checks.due(what + " that is not there: " + one, there.contains(one) ? 1 : 0, 1);
        }
    }

    private static Set<String> found(String text, String pattern) {
        Set<String> all = new TreeSet<>();
        Pattern.compile(pattern).matcher(text).results().forEach(m -> all.add(m.group(1)));
        return all;
    }

    /** The calls of the document's face, without the types. */
    private static Set<String> calls(String face) {
        Set<String> all = new TreeSet<>();
        for (String call : found(face, "(?m)^    public (?:int|long) (\\w+\\([^)]*\\));$")) {
            all.add(call.replaceAll("\\b(int|long) ", ""));
        }
        return all;
    }

    private static Set<String> tests() throws IOException {
        try (var files = Files.list(Path.of("src/test/java"))) {
            Set<String> all = new TreeSet<>();
            files.map(f -> f.getFileName().toString()).filter(n -> n.endsWith("Test.java"))
                .forEach(n -> all.add(n.substring(0, n.length() - ".java".length())));
            return all;
        }
    }

    /** Runs the lines of the example, a call with figures and the answer behind it each; how many there were. */
    private static int example(String readme) throws ReflectiveOperationException {
        PennyQueue q = new PennyQueue();
        String code = readme.substring(readme.indexOf("```java"), readme.indexOf("```", readme.indexOf("```java") + 3));
        int told = 0;
        for (String line : code.split("\n")) {
            for (String text : found(line, "^for .*\"(.*)\"\\.toCharArray")) {
                Checks.feed(q, text);
            }
            for (MatchResult m : Pattern.compile("^q\\.(\\w+)\\(([-\\d, ]*)\\); +// (-?\\d+):").matcher(line).results().toList()) {
                checks.due("the example's " + line, call(q, m.group(1), m.group(2)), Long.parseLong(m.group(3)));
                told++;
            }
        }
        return told;
    }

    private static long call(PennyQueue q, String name, String figures) throws ReflectiveOperationException {
        String[] each = figures.isEmpty() ? new String[0] : figures.split(", ");
        for (Method method : PennyQueue.class.getMethods()) {
            if (method.getName().equals(name)) {
                Object[] values = new Object[each.length];
                for (int i = 0; i < each.length; i++) {
                    values[i] = Integer.valueOf(each[i]);
                }
                return ((Number) method.invoke(q, values)).longValue();
            }
        }
        throw new NoSuchMethodException(name);
    }
}
