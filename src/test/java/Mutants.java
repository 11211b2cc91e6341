import java.io.IOException;
import java.nio.file.Files;
import java.nio.file.Path;
import java.util.ArrayList;
import java.util.Comparator;
import java.util.List;
import java.util.concurrent.ExecutorService;
import java.util.concurrent.Executors;
import java.util.concurrent.Future;
import java.util.concurrent.TimeUnit;
import java.util.regex.Matcher;
import java.util.regex.Pattern;
import java.util.stream.Stream;
import javax.tools.JavaCompiler;
import javax.tools.ToolProvider;

/**
 * Breaks the class at one place after another, and tells which breaks a test does not see.
 * No test of .ci/run itself: it takes minutes, and some breaks change no answer.
 * java -cp CLASSES Mutants CLASSES TEST [FROM-LINE TO-LINE]
 */
public final class Mutants {
    private static final Path SOURCE = Path.of("src/main/java/SnoozeRow.java");
    private static final int SECONDS = 60;
    private static final String[][] SWAPS = {{" < ", " <= "}, {" <= ", " < "}, {" > ", " >= "}, {" >= ", " > "},
        {" < ", " > "}, {" == ", " != "}, {" != ", " == "}, {" && ", " || "}, {" || ", " && "}, {" + ", " - "},
        {" - ", " + "}, {" * ", " + "}, {" / ", " * "}, {" % ", " / "}, {" ^ ", " | "}, {" | ", " & "}, {" & ", " | "},
        {" += ", " -= "}, {" -= ", " += "}, {" |= ", " &= "}, {" >> ", " << "}, {"++", "--"}, {"true", "false"},
        {"false", "true"}, {"(!", "("}, {" !", " "}, {"Math.min", "Math.max"}, {"Math.max", "Math.min"}, {"= -", "= "},
        {"return -", "return "}, {"super.", "this."}, {" ? ", " ? 1 == 2 && "}};
    private static final String[] NAMES = {"NONE", "BAD", "STATE", "FULL", "NOT_SO", "NO_SUCH", "NOTHING", "CAST", "PLACE",
        "SIZE", "NO", "MORNINGS", "SENT", "STOP", "SEEN", "SLEEPERS", "KINDS", "NUMBERS", "OWES", "MOST", "tape", "other",
        "sleeper", "i", "j", "n", "p"};

    private record Mutant(int line, String before, String after, String source) { }

    public static void main(String[] args) throws Exception {
        String classes = args[0];
        String test = args[1];
        int from = args.length > 2 ? Integer.parseInt(args[2]) : 1;
        int to = args.length > 3 ? Integer.parseInt(args[3]) : Integer.MAX_VALUE;
        List<Mutant> mutants = mutants(from, to);
        ExecutorService pool = Executors.newFixedThreadPool(Runtime.getRuntime().availableProcessors());
        List<Future<Integer>> ends = new ArrayList<>();
        for (Mutant m : mutants) {
            ends.add(pool.submit(() -> end(m, classes, test)));
        }
        int[] many = new int[3];
        for (int i = 0; i < mutants.size(); i++) {
            int end = ends.get(i).get();
            many[end]++;
            if (end == 1) {
                Mutant m = mutants.get(i);
                System.out.println(m.line + ": " + m.before.trim() + "\n  -> " + m.after.trim());
            }
        }
        pool.shutdown();
        System.out.println(many[0] + " seen, " + many[1] + " not seen, " + many[2] + " do not compile");
    }

    private static List<Mutant> mutants(int from, int to) throws IOException {
        String[] lines = Files.readString(SOURCE).split("\n", -1);
        List<Mutant> mutants = new ArrayList<>();
        boolean comment = false;
        for (int i = 0; i < lines.length; i++) {
            String line = lines[i].trim();
            comment = comment || line.startsWith("/*");
            boolean code = !comment && !line.startsWith("//") && !line.startsWith("import");
            comment = comment && !line.endsWith("*/");
            if (code && i + 1 >= from && i + 1 <= to) {
                for (String after : changed(lines[i])) {
                    String[] all = lines.clone();
                    all[i] = after;
                    mutants.add(new Mutant(i + 1, lines[i], after, String.join("\n", all)));
                }
            }
        }
        return mutants;
    }

    private static List<String> changed(String line) {
        List<String> changed = new ArrayList<>();
        for (String[] swap : SWAPS) {
            for (int at = line.indexOf(swap[0]); at >= 0; at = line.indexOf(swap[0], at + 1)) {
                changed.add(line.substring(0, at) + swap[1] + line.substring(at + swap[0].length()));
            }
        }
        Matcher number = Pattern.compile("\\b\\d+\\b").matcher(line);
        while (number.find()) {
            for (int by = -1; by <= 1; by += 2) {
                changed.add(line.substring(0, number.start()) + (Long.parseLong(number.group()) + by)
                    + line.substring(number.end()));
            }
        }
        for (int a = 0; a < NAMES.length; a++) {
            Matcher name = Pattern.compile("\\b" + NAMES[a] + "\\b").matcher(line);
            while (name.find()) {
                String other = NAMES[(a + 1) % NAMES.length];
                changed.add(line.substring(0, name.start()) + other + line.substring(name.end()));
            }
        }
        String trimmed = line.trim();
        if (trimmed.endsWith(";") && !trimmed.startsWith("return")) {
            changed.add(";");
        }
        if (trimmed.startsWith("if (") && trimmed.endsWith("{")) {
            changed.add("if (1 == 2) {");
            changed.add("if (1 == 1) {");
        }
        return changed;
    }

    /** 0: the test saw it, 1: it did not, 2: it does not compile. */
    private static int end(Mutant m, String classes, String test) throws Exception {
        Path dir = Files.createTempDirectory("mutant");
        try {
            Path file = dir.resolve("SnoozeRow.java");
            Files.writeString(file, m.source);
            JavaCompiler compiler = ToolProvider.getSystemJavaCompiler();
            Path log = dir.resolve("log");
            int compiled;
            try (var out = Files.newOutputStream(log)) {
                compiled = compiler.run(null, out, out, "-nowarn", "-d", dir.toString(), file.toString());
            }
            if (compiled != 0) {
                return 2;
            }
            Process run = new ProcessBuilder("java", "-XX:TieredStopAtLevel=1", "-XX:+UseSerialGC", "-cp",
                dir + ":" + classes, test).redirectErrorStream(true).redirectOutput(log.toFile()).start();
            boolean ended = run.waitFor(SECONDS, TimeUnit.SECONDS);
            run.destroyForcibly();
            return ended && run.exitValue() == 0 ? 1 : 0;
        } finally {
            try (Stream<Path> all = Files.walk(dir)) {
                all.sorted(Comparator.reverseOrder()).forEach(p -> p.toFile().delete());
            }
        }
    }
}
