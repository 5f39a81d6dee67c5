import java.util.ArrayList;
import java.util.HashSet;
import java.util.List;
import java.util.Map;
import java.util.Set;
import java.util.TreeMap;
import java.util.regex.Matcher;
import java.util.regex.Pattern;

/** The document's sentences, each with the test that holds the class to it at its edges. */
final class Edges {
    private record Edge(String section, String sentence, Runnable test) {
        String name() {
            return section + ", \"" + sentence + "\"";
        }
    }

    private static String current = "";

    private final List<Edge> all = new ArrayList<>();

    static void due(String call, long got, long want) {
        TestTools.due(current + ": " + call, got, want);
    }

    void terms(int part, String sentence, Runnable test) {
        of("Terms " + part, sentence, test);
    }

    void promise(int number, String sentence, Runnable test) {
        of("Promise " + number, sentence, test);
    }

    void of(String section, String sentence, Runnable test) {
        all.add(new Edge(section, sentence, test));
    }

    /** Each test runs by itself: one that fails or throws does not hide another. */
    void run() {
        for (Edge edge : all) {
            current = edge.name();
            int before = TestTools.checked();
            try {
                edge.test().run();
            } catch (RuntimeException | StackOverflowError e) {
                due("threw " + e, 1, 0);
            }
            due("asks something", TestTools.checked() > before ? 1 : 0, 1);
        }
        System.out.println(all.size() + " sentences have a test of their own");
    }

    /** Each sentence that a test names stands in its section, and no word of the sections is without a test. */
    void dueIn(String document) {
        Map<String, String> sections = sections(document);
        Map<String, boolean[]> named = new TreeMap<>();
        sections.forEach((section, text) -> named.put(section, new boolean[text.length()]));
        Set<String> seen = new HashSet<>();
        for (Edge edge : all) {
            current = edge.name();
            due("is the only test of that name", seen.add(edge.name()) ? 1 : 0, 1);
            String text = sections.getOrDefault(edge.section(), "");
            int from = text.indexOf(edge.sentence());
            due("stands in the document", from >= 0 ? 1 : 0, 1);
            for (int n = from; from >= 0 && n < from + edge.sentence().length(); n++) {
                named.get(edge.section())[n] = true;
            }
        }
        sections.forEach((section, text) -> dueNamed(section, text, named.get(section)));
    }

    private static void dueNamed(String section, String text, boolean[] named) {
        StringBuilder left = new StringBuilder();
        for (int n = 0; n < text.length(); n++) {
            left.append(named[n] ? '\n' : text.charAt(n));
        }
        for (String stretch : left.toString().split("\n+")) {
            if (stretch.matches(".*[A-Za-z0-9].*")) {
                current = section;
                due("no test for \"" + stretch.trim() + "\"", 1, 0);
            }
        }
    }

    /** The parts of "Terms" and the promises, without fences and signatures, and with single blanks. */
    private static Map<String, String> sections(String document) {
        Map<String, String> sections = new TreeMap<>();
        Matcher terms = Pattern.compile("(?s)## Terms\n(.*?)The constants:(.*?)## ").matcher(document);
        if (terms.find()) {
            String[] parts = terms.group(1).replaceAll("```(text)?", " ").split("==== \\d\\.");
            for (int n = 0; n < parts.length; n++) {
                sections.put("Terms " + (n + 1), plain(parts[n]));
            }
            sections.put("The constants", plain(terms.group(2)));
        }
        Matcher promises = Pattern.compile("(?s)## Promise (\\d+):[^\n]*\n\\s*`[^`]*`:(.*?)(?=\n## )").matcher(document);
        while (promises.find()) {
            sections.put("Promise " + promises.group(1), plain(promises.group(2)));
        }
        Matcher uses = Pattern.compile("(?m)^An object is used for .*$").matcher(document);
        if (uses.find()) {
            sections.put("What it is", plain(uses.group()));
        }
        due("the document has so many sections", sections.size(), 6 + 1 + 30 + 1);
        return sections;
    }

    private static String plain(String text) {
        return text.replaceAll("\\s+", " ").trim();
    }
}
