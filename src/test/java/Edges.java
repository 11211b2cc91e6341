import java.io.IOException;
import java.nio.charset.StandardCharsets;
import java.nio.file.Files;
import java.nio.file.Path;
import java.util.LinkedHashMap;
import java.util.Map;
import java.util.function.Consumer;
import java.util.regex.Matcher;
import java.util.regex.Pattern;

/**
 * The document's sentences, each with a test of its own.
 * A sentence is told by its words, which have to stand in its section once; a word that is left over
 * is told, so that none goes without a test.
 */
final class Edges {
    private static final Path DOC = Path.of("../shared/DOC.md");
    private static final Pattern HEAD = Pattern.compile("(?m)^## (?:Promise )?(\\d+|[^:\\n]+)(?::.*)?$");
    /** A word, or a mark of a part (==== 2), which asks for nothing. */
    private static final Pattern WORD = Pattern.compile("==== \\d|[A-Za-z0-9]+");

    private final Map<String, String> sections = new LinkedHashMap<>();
    private final Map<String, boolean[]> tested = new LinkedHashMap<>();
    private String edge = "";
    private int looked;
    private int wrong;
    private int edges;
    private int failed;

    Edges() {
        String doc = document().replaceAll("(?m)^```.*$", "");
        Matcher head = HEAD.matcher(doc);
        String name = "";
        int from = 0;
        while (head.find()) {
            keeps(name, doc.substring(from, head.start()));
            name = head.group(1).trim();
            from = head.end();
        }
        keeps(name, doc.substring(from));
    }

    private static String document() {
        try {
            return Files.readString(DOC, StandardCharsets.UTF_8);
        } catch (IOException e) {
            return "";
        }
    }

    private void keeps(String name, String text) {
        String plain = text.replaceAll("\\s+", " ");
        sections.put(name, plain);
        tested.put(name, new boolean[plain.length()]);
    }

    /** Runs the test of a sentence; a test that looks at no answer has failed, too. */
    void says(String section, String words, Consumer<Edges> test) {
        edge = section + ": " + words;
        edges++;
        int before = wrong;
        int lookedBefore = looked;
        quotes(section, words);
        try {
            test.accept(this);
        } catch (RuntimeException e) {
            tells("it threw " + e);
        }
        if (looked == lookedBefore) {
            tells("its test looks at no answer");
        }
        failed += wrong == before ? 0 : 1;
    }

    private void quotes(String section, String words) {
        String text = sections.getOrDefault(section, "");
        int at = text.indexOf(words);
        if (at < 0 || text.indexOf(words, at + 1) >= 0) {
            tells("these words do not stand in the document once");
            return;
        }
        for (int i = at; i < at + words.length(); i++) {
            tested.get(section)[i] = true;
        }
    }

    private void tells(String what) {
        wrong++;
        System.out.println("[" + edge + "] " + what);
    }

    void is(String call, long got, long want) {
        looked++;
        if (got != want) {
            tells(call + " answered " + got + ", due is " + want);
        }
    }

    /** Looks whether each word of a section stands in a sentence with a test. */
    void covers(String section) {
        edge = section;
        edges++;
        int before = wrong;
        String text = sections.getOrDefault(section, "");
        boolean[] has = tested.getOrDefault(section, new boolean[0]);
        if (text.isEmpty()) {
            tells("there is no such section");
        }
        Matcher word = WORD.matcher(text);
        while (word.find()) {
            if (!word.group().startsWith("====") && !(has[word.start()] && has[word.end() - 1])) {
                tells("no test for: .." + around(text, word.start(), word.end()) + "..");
            }
        }
        failed += wrong == before ? 0 : 1;
    }

    /** The text of a section, blanks and line ends as one blank. */
    String section(String name) {
        return sections.getOrDefault(name, "");
    }

    private static String around(String text, int from, int to) {
        return text.substring(Math.max(0, from - 30), Math.min(text.length(), to + 30));
    }

    void end() {
        System.out.println(edges + " sentences, " + looked + " answers looked at, " + failed + " sentences do not hold");
        if (failed != 0) {
            System.exit(1);
        }
    }
}
