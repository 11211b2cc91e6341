import java.lang.reflect.Method;
import java.lang.reflect.Modifier;
import java.nio.charset.StandardCharsets;
import java.nio.file.Files;
import java.nio.file.Path;
import java.util.Set;
import java.util.TreeSet;
import java.util.regex.Matcher;
import java.util.regex.Pattern;

/** README.md: its calls answer what it says, each call of the face stands in it, and so do its tests. */
public final class ReadmeTest {
    private static final Due DUE = new Due();
    private static final Pattern BLOCK = Pattern.compile("(?s)```java\n(.*?)```");
    private static final Pattern CALL = Pattern.compile("row\\.(\\w+)\\(([^)]*)\\); +// (-?\\d+): .+");
    private static final Pattern FEEDS = Pattern.compile(
        "for \\(char sign : \"([^\"]*)\"\\.toCharArray\\(\\)\\) row\\.feed\\(sign\\);");

    private static SnoozeRow row = new SnoozeRow();

    public static void main(String[] args) throws Exception {
        String readme = Files.readString(Path.of("README.md"), StandardCharsets.UTF_8);
        Set<String> used = runs(readme);
        calls(readme, used);
        files(readme);
        DUE.end();
    }

    private static Set<String> runs(String readme) throws Exception {
        DUE.promise("README: its calls");
        Set<String> used = new TreeSet<>();
        Matcher block = BLOCK.matcher(readme);
        int blocks = 0;
        while (block.find()) {
            blocks++;
            for (String line : block.group(1).split("\n")) {
                runsLine(line, used);
            }
        }
        DUE.is("blocks of Java", blocks, 1);
        return used;
    }

    private static void runsLine(String line, Set<String> used) throws Exception {
        Matcher call = CALL.matcher(line);
        Matcher feeds = FEEDS.matcher(line);
        if (line.equals("SnoozeRow row = new SnoozeRow();")) {
            row = new SnoozeRow();
        } else if (feeds.matches()) {
            Due.feeds(row, feeds.group(1));
            used.add("feed");
        } else if (call.matches()) {
            used.add(call.group(1));
            DUE.is(line, answer(call.group(1), call.group(2)), Long.parseLong(call.group(3)));
        } else {
            DUE.is("can not be read: " + line, line.isEmpty() || line.startsWith("//") ? 1 : 0, 1);
        }
    }

    private static long answer(String name, String told) throws Exception {
        String[] texts = told.isEmpty() ? new String[0] : told.split(", ");
        for (Method m : SnoozeRow.class.getDeclaredMethods()) {
            if (m.getName().equals(name) && Modifier.isPublic(m.getModifiers()) && m.getParameterCount() == texts.length) {
                Object[] values = new Object[texts.length];
                for (int i = 0; i < values.length; i++) {
                    values[i] = value(m.getParameterTypes()[i], texts[i]);
                }
                return ((Number) m.invoke(row, values)).longValue();
            }
        }
        throw new IllegalArgumentException("no such call: " + name + "(" + told + ")");
    }

    private static Object value(Class<?> type, String text) {
        if (type == boolean.class) {
            return Boolean.valueOf(text);
        }
        return type == long.class ? (Object) Long.valueOf(text) : (Object) Integer.valueOf(text);
    }

    private static void calls(String readme, Set<String> used) {
        DUE.promise("README: the calls of the face");
        String table = readme.substring(Math.max(0, readme.indexOf("| call |")));
        Set<String> face = new TreeSet<>();
        for (Method m : SnoozeRow.class.getDeclaredMethods()) {
            if (Modifier.isPublic(m.getModifiers())) {
                face.add(m.getName());
                DUE.is(m.getName() + " stands in the table", table.contains("`" + m.getName() + "(") ? 1 : 0, 1);
            }
        }
        face.removeAll(used);
        DUE.is("calls that the example leaves out: " + face, face.size() <= 3 ? 1 : 0, 1);
    }

    private static void files(String readme) {
        DUE.promise("README: the files that it names");
        Matcher test = Pattern.compile("\\b\\w+Test\\b|\\bMutants\\b").matcher(readme);
        while (test.find()) {
            DUE.is(test.group(), Files.exists(Path.of("src/test/java", test.group() + ".java")) ? 1 : 0, 1);
        }
        Matcher file = Pattern.compile("`([\\w./]*(?:/\\w+\\.java|\\.md|/run|/tests))`").matcher(readme);
        while (file.find()) {
            DUE.is(file.group(1), Files.exists(Path.of(file.group(1))) ? 1 : 0, 1);
        }
        DUE.is("it says how to run the tests", readme.contains("```sh\n.ci/run\n```") ? 1 : 0, 1);
    }
}
