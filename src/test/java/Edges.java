import java.io.IOException;
import java.nio.charset.StandardCharsets;
import java.nio.file.Files;
import java.nio.file.Path;
import java.util.LinkedHashMap;
import java.util.Map;
import java.util.function.Consumer;
import java.util.regex.Matcher;
import java.util.regex.Pattern;

/**
 * The document's sentences that name a boundary case, each with a test of its own.
 * A sentence is told by its words, which have to stand in its section once; what is left over is
 * looked at for words that tell a boundary, so that none of them goes without a test.
 */
final class Edges {
    private static final Path DOC = Path.of("../shared/DOC.md");
    private static final Pattern HEAD = Pattern.compile("(?m)^## (?:Promise )?(\\d+|[^:\\n]+)(?::.*)?$");
    private static final Pattern BOUNDARY = Pattern.compile("\\d+ \\.\\. \\d+|at most|at least|at first|\\bcut\\b"
        + "|modulo|below|beyond|above|behind which|too early|without|whether|wrapping|\\bbits\\b|\\bleast\\b|fewest"
        + "|of several|lowest|\\bempty\\b|[Nn]one|\\bends ahead|NONE|BAD|STATE|FULL|NOTHING|CAST|PLACE|SIZE"
        + "|\\bNO\\b|-5|-10001|-1\\b|\\b\\d digits|changes nothing");

    private final Map<String, String> sections = new LinkedHashMap<>();
    private final Map<String, boolean[]> tested = new LinkedHashMap<>();
    private String edge = "";
    private int looked;
    private int wrong;
    private int edges;
    private int failed;

    Edges() {
        String doc = document().replaceAll("(?m)^```.*$", "");
        Matcher head = HEAD.matcher(doc);
        String name = "";
        int from = 0;
        while (head.find()) {
            section(name, doc.substring(from, head.start()));
            name = head.group(1).trim();
            from = head.end();
        }
        section(name, doc.substring(from));
    }

    private static String document() {
        try {
            return Files.readString(DOC, StandardCharsets.UTF_8);
        } catch (IOException e) {
            return "";
        }
    }

    private void section(String name, String text) {
        String plain = text.replaceAll("\\s+", " ");
        sections.put(name, plain);
        tested.put(name, new boolean[plain.length()]);
    }

    /** Runs the test of a sentence; a test that looks at no answer has failed, too. */
    void says(String section, String words, Consumer<Edges> test) {
        edge = section + ": " + words;
        edges++;
        int before = wrong;
        int lookedBefore = looked;
        quotes(section, words);
        try {
            test.accept(this);
        } catch (RuntimeException e) {
            tells("it threw " + e);
        }
        if (looked == lookedBefore) {
            tells("its test looks at no answer");
        }
        failed += wrong == before ? 0 : 1;
    }

    private void quotes(String section, String words) {
        String text = sections.getOrDefault(section, "");
        int at = text.indexOf(words);
        if (at < 0 || text.indexOf(words, at + 1) >= 0) {
            tells("these words do not stand in the document once");
            return;
        }
        for (int i = at; i < at + words.length(); i++) {
            tested.get(section)[i] = true;
        }
    }

    private void tells(String what) {
        wrong++;
        System.out.println("[" + edge + "] " + what);
    }

    void is(String call, long got, long want) {
        looked++;
        if (got != want) {
            tells(call + " answered " + got + ", due is " + want);
        }
    }

    /** Looks whether each word of a section that tells a boundary stands in a sentence with a test. */
    void covers(String section) {
        edge = section;
        edges++;
        int before = wrong;
        String text = sections.getOrDefault(section, "");
        boolean[] has = tested.getOrDefault(section, new boolean[0]);
        if (text.isEmpty()) {
            tells("there is no such section");
        }
        Matcher boundary = BOUNDARY.matcher(text);
        while (boundary.find()) {
            for (int i = boundary.start(); i < boundary.end(); i++) {
                if (!has[i]) {
                    tells("no test for: .." + around(text, boundary.start(), boundary.end()) + "..");
                    break;
                }
            }
        }
        failed += wrong == before ? 0 : 1;
    }

    private static String around(String text, int from, int to) {
        return text.substring(Math.max(0, from - 30), Math.min(text.length(), to + 30));
    }

    void end() {
        System.out.println(edges + " sentences, " + looked + " answers looked at, " + failed + " sentences do not hold");
        if (failed != 0) {
            System.exit(1);
        }
    }
}
