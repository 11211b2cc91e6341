import java.io.IOException;
import java.lang.reflect.Field;
import java.lang.reflect.Method;
import java.lang.reflect.Modifier;
import java.nio.charset.StandardCharsets;
import java.nio.file.Files;
import java.nio.file.Path;
import java.util.regex.Matcher;
import java.util.regex.Pattern;

/**
 * "The public face", as the document itself writes it: each line of it is looked up in the class.
 * And the promises' own heads, and what stands ahead of the calls.
 */
final class FaceEdges {
    private static final String FACE = "The public face";
    private static final Path SOURCE = Path.of("src/main/java/SnoozeRow.java");
    private static final Pattern CALL = Pattern.compile("(int|long) (\\w+)\\(([^)]*)\\)");
    private static final Pattern AHEAD = Pattern.compile("Ahead of the calls ([^:]*) the interface says: (---- [^.]*)\\.");

    static void all(Edges e) {
        e.says(FACE, "public final class SnoozeRow {", FaceEdges::publicAndFinal);
        e.says(FACE, "public static final int NONE = -1, BAD = -2, STATE = -3, FULL = -4;", FaceEdges::ints);
        e.says(FACE, "public static final long NO = Long.MIN_VALUE;", FaceEdges::longs);
        e.says(FACE, "public SnoozeRow();", FaceEdges::made);
        e.says("1", "`SnoozeRow()`:", FaceEdges::made);
        Matcher call = CALL.matcher(e.section(FACE));
        int promise = 1;
        while (call.find()) {
            String signature = call.group();
            promise++;
            e.says(FACE, "public " + signature + ";", x -> has(x, signature));
            e.says(String.valueOf(promise), "`" + signature + "`:", x -> has(x, signature));
        }
        e.says(FACE, "; }", FaceEdges::nothingElse);
        Matcher ahead = AHEAD.matcher(e.section("Terms"));
        while (ahead.find()) {
            String calls = ahead.group(1);
            String head = ahead.group(2);
            e.says("Terms", ahead.group(), x -> standsAhead(x, calls, head));
        }
    }

    private static String source() {
        try {
            return Files.readString(SOURCE, StandardCharsets.UTF_8);
        } catch (IOException thrown) {
            return "";
        }
    }

    private static void holds(Edges e, String what, boolean is) {
        e.is(what, is ? 1 : 0, 1);
    }

    private static void publicAndFinal(Edges e) {
        int modifiers = SnoozeRow.class.getModifiers();
        holds(e, "it is public", Modifier.isPublic(modifiers));
        holds(e, "it is final", Modifier.isFinal(modifiers));
        holds(e, "it has no package", SnoozeRow.class.getPackageName().isEmpty());
    }

    /** Read by name, since javac writes constants into what uses them. */
    private static void constant(Edges e, String name, Class<?> type, long value) {
        try {
            Field f = SnoozeRow.class.getField(name);
            holds(e, name + " is static", Modifier.isStatic(f.getModifiers()));
            holds(e, name + " is final", Modifier.isFinal(f.getModifiers()));
            holds(e, name + " is of " + type, f.getType() == type);
            e.is(name, f.getLong(null), value);
        } catch (ReflectiveOperationException thrown) {
            holds(e, name + " is there", false);
        }
    }

    private static void ints(Edges e) {
        constant(e, "NONE", int.class, -1);
        constant(e, "BAD", int.class, -2);
        constant(e, "STATE", int.class, -3);
        constant(e, "FULL", int.class, -4);
    }

    private static void longs(Edges e) {
        constant(e, "NO", long.class, Long.MIN_VALUE);
    }

    private static void made(Edges e) {
        e.is("public constructors", SnoozeRow.class.getConstructors().length, 1);
        e.is("all constructors", SnoozeRow.class.getDeclaredConstructors().length, 1);
        e.is("its parameters", SnoozeRow.class.getConstructors()[0].getParameterCount(), 0);
        e.is("count(0) of a new one", new SnoozeRow().count(0), 0);
    }

    private static Class<?> type(String parameter) {
        return parameter.startsWith("long ") ? long.class : parameter.startsWith("boolean ") ? boolean.class : int.class;
    }

    private static void has(Edges e, String signature) {
        Matcher call = CALL.matcher(signature);
        holds(e, "is a call", call.matches());
        String[] parameters = call.group(3).isEmpty() ? new String[0] : call.group(3).split(", ");
        Class<?>[] types = new Class<?>[parameters.length];
        for (int i = 0; i < types.length; i++) {
            types[i] = type(parameters[i]);
        }
        try {
            Method m = SnoozeRow.class.getDeclaredMethod(call.group(2), types);
            holds(e, "it is public", Modifier.isPublic(m.getModifiers()));
            holds(e, "it is not static", !Modifier.isStatic(m.getModifiers()));
            holds(e, "it answers " + call.group(1), m.getReturnType().getName().equals(call.group(1)));
            e.is("what it may throw", m.getExceptionTypes().length, 0);
        } catch (NoSuchMethodException thrown) {
            holds(e, signature + " is there", false);
        }
        holds(e, "its parameters bear these names", source().contains("    public " + signature + " {\n"));
        holds(e, "the face has it so", e.section(FACE).contains("public " + signature + ";"));
    }

    private static void nothingElse(Edges e) {
        int calls = 0;
        Matcher call = CALL.matcher(e.section(FACE));
        while (call.find()) {
            calls++;
        }
        int has = 0;
        for (Method m : SnoozeRow.class.getDeclaredMethods()) {
            has += Modifier.isPrivate(m.getModifiers()) ? 0 : 1;
        }
        e.is("calls of the face", calls, 32);
        e.is("calls of the class", has, calls);
        e.is("constants", SnoozeRow.class.getFields().length, 5);
        e.is("public classes inside", SnoozeRow.class.getClasses().length, 0);
    }

    /** The calls of one part stand behind its head, with no other head between, in the document's order. */
    private static void standsAhead(Edges e, String calls, String head) {
        String source = source();
        int at = source.indexOf("    // " + head + "\n");
        holds(e, head + " stands in the class", at >= 0);
        int end = source.indexOf("    // ----", at + 1);
        int from = at;
        for (String call : calls.split(", ")) {
            Matcher line = Pattern.compile("    public \\w+ " + call.replace("`", "") + "\\(").matcher(source);
            boolean found = line.find(Math.max(0, from));
            holds(e, call + " stands behind " + head, found && line.start() > from && line.start() < end);
            from = found ? line.start() : from;
        }
    }
}
