import java.lang.reflect.Constructor;
import java.lang.reflect.Field;
import java.lang.reflect.Method;
import java.lang.reflect.Modifier;
import java.nio.charset.StandardCharsets;
import java.nio.file.Files;
import java.nio.file.Path;
import java.util.Arrays;
import java.util.List;
import java.util.Set;
import java.util.TreeSet;
import java.util.regex.Matcher;
import java.util.regex.Pattern;

/** The face of the document, and those rules of LANGUAGE.md that can be looked at from outside. */
public final class LanguageTest {
    private static final Due DUE = new Due();
    private static final String SOURCE = "src/main/java/SnoozeRow.java";
    private static final String[] FACE = {
        "int sleeper(int,int)", "int of(int,int)", "int owe(int,int)", "int away(int,boolean)",
        "int dip(int)", "int row(int,int,int)", "int feed(int)", "int street()", "int told(int)",
        "int pass(int)", "int on(int,int)", "int fills(int)", "int best(int,int)",
        "int see(int,int,int)", "int can(int,int)", "long odds(int,int,int)", "long mean(int,int)",
        "int plan(int,int)", "int ends(int)", "int book(int,int)", "int looked()",
        "int judge(int,int)", "int image()", "int undo()", "int act(int,int,int)", "int trace(int)",
        "int taken(int,int)", "int count(int)", "int tape(int,int,int)", "int item(int,int,long)",
        "long read(int,int)", "int shift(int,int,int,int,int)",
        "int NONE", "int BAD", "int STATE", "int FULL", "long NO"};
    private static final Set<String> LIBRARY = Set.of("Arrays.fill", "System.arraycopy", "Math.min",
        "Math.max", "Integer.bitCount", "Long.MIN_VALUE");

    public static void main(String[] args) throws Exception {
        face();
        for (Class<?> inside : SnoozeRow.class.getDeclaredClasses()) {
            inside(inside);
        }
        DUE.promise("LANGUAGE 11: classes");
        holds("twelve classes at most", SnoozeRow.class.getDeclaredClasses().length < 12);
        String source = withoutTextsAndComments(Files.readString(Path.of(SOURCE), StandardCharsets.US_ASCII));
        words(source);
        library(source);
        lengths(source);
        DUE.end();
    }

    private static void holds(String what, boolean is) {
        DUE.is(what, is ? 1 : 0, 1);
    }

    private static void face() {
        DUE.promise("LANGUAGE 1: the face");
        Set<String> face = new TreeSet<>();
        Set<String> names = new TreeSet<>();
        for (Method m : SnoozeRow.class.getDeclaredMethods()) {
            if (Modifier.isPublic(m.getModifiers())) {
                StringBuilder types = new StringBuilder();
                for (Class<?> type : m.getParameterTypes()) {
                    types.append(types.length() == 0 ? "" : ",").append(type.getName());
                }
                face.add(m.getReturnType() + " " + m.getName() + "(" + types + ")");
                names.add(m.getName());
                holds(m.getName() + " is not static", !Modifier.isStatic(m.getModifiers()));
            }
        }
        for (Field f : SnoozeRow.class.getDeclaredFields()) {
            if (Modifier.isPublic(f.getModifiers())) {
                face.add(f.getType() + " " + f.getName());
            }
            holds(f.getName() + " is public or private", isPublicOrPrivate(f.getModifiers()));
        }
        holds("the face is " + face, face.equals(new TreeSet<>(Arrays.asList(FACE))));
        for (Method m : SnoozeRow.class.getDeclaredMethods()) {
            boolean isPublic = Modifier.isPublic(m.getModifiers());
            holds(m.getName() + " is public or private", isPublicOrPrivate(m.getModifiers()));
            holds(m.getName() + " is a name of its own", isPublic || !names.contains(m.getName()));
        }
        Constructor<?>[] made = SnoozeRow.class.getDeclaredConstructors();
        holds("one public constructor", made.length == 1 && Modifier.isPublic(made[0].getModifiers())
            && made[0].getParameterCount() == 0);
        holds("the class is final", Modifier.isFinal(SnoozeRow.class.getModifiers()));
        shape(SnoozeRow.class);
    }

    private static boolean isPublicOrPrivate(int modifiers) {
        return Modifier.isPublic(modifiers) || Modifier.isPrivate(modifiers);
    }

    private static void inside(Class<?> c) {
        DUE.promise("LANGUAGE 2: classes inside");
        holds(c.getName() + " is static", Modifier.isStatic(c.getModifiers()));
        holds(c.getName() + " is not public", !Modifier.isPublic(c.getModifiers())
            && !Modifier.isProtected(c.getModifiers()));
        holds(c.getName() + " has no class inside", c.getDeclaredClasses().length == 0);
        shape(c);
    }

    private static void shape(Class<?> c) {
        DUE.promise("LANGUAGE 5 and 11: fields and parameters of " + c.getName());
        int fields = 0;
        for (Field f : c.getDeclaredFields()) {
            boolean isStatic = Modifier.isStatic(f.getModifiers());
            fields += isStatic ? 0 : 1;
            holds(f.getName() + " is final, if static", !isStatic || Modifier.isFinal(f.getModifiers()));
            holds(f.getName() + " is a constant, if static", !isStatic || f.getType().isPrimitive());
        }
        holds("twenty fields at most", fields <= 20);
        for (Method m : c.getDeclaredMethods()) {
            holds(m.getName() + " takes seven at most", m.getParameterCount() <= 7);
            holds(m.getName() + " is written", !m.isSynthetic() && !m.isBridge());
        }
    }

    private static String withoutTextsAndComments(String source) {
        return source.replaceAll("(?s)/\\*.*?\\*/", "").replaceAll("//[^\n]*", "")
            .replaceAll("\"[^\"\n]*\"", "\"\"").replaceAll("'.'", "' '");
    }

    private static void words(String source) {
        DUE.promise("LANGUAGE 2, 6, 10 and 13: words");
        List<String> no = List.of("throw", "throws", "try", "catch", "finally", "synchronized", "assert",
            "package", "volatile", "native", "yield", "default ->", "var", "Object", "System.out",
            "Thread", "hashCode", "toString", "double", "float");
        for (String word : no) {
            holds("no " + word, !Pattern.compile("\\b" + Pattern.quote(word) + "\\b").matcher(source).find());
        }
        for (String sign : List.of("->", "::", "@", "\"\" +", "+ \"\"", "static {")) {
            holds("no " + sign, !source.contains(sign));
        }
        Matcher imports = Pattern.compile("import ([\\w.]+);").matcher(source);
        while (imports.find()) {
            holds("import " + imports.group(1), imports.group(1).equals("java.util.Arrays"));
        }
    }

    private static void library(String source) {
        DUE.promise("LANGUAGE 4: the library");
        Matcher used = Pattern.compile("\\b(Arrays|System|Math|Integer|Long|String|StringBuilder)\\.(\\w+)")
            .matcher(source.replace("import java.util.Arrays;", ""));
        while (used.find()) {
            holds(used.group(), LIBRARY.contains(used.group()));
        }
    }

    /** Methods stand four signs in (of SnoozeRow) or eight (of a class inside), and so do their ends. */
    private static void lengths(String source) {
        DUE.promise("LANGUAGE 11: sixty lines a method");
        String[] lines = source.split("\n");
        for (int i = 0; i < lines.length; i++) {
            Matcher head = Pattern.compile("^( {4}| {8})\\S[^=;]*\\) \\{$").matcher(lines[i]);
            if (!head.matches() || lines[i].trim().matches("(if|for|while|switch|\\}).*")) {
                continue;
            }
            int end = i;
            while (end < lines.length && !lines[end].equals(head.group(1) + "}")) {
                end++;
            }
            holds(lines[i].trim() + " has " + (end - i + 1) + " lines", end - i + 1 <= 60);
        }
    }
}
