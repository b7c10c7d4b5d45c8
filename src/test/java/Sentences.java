import java.io.IOException;
import java.nio.file.Files;
import java.nio.file.Path;
import java.util.ArrayList;
import java.util.LinkedHashMap;
import java.util.LinkedHashSet;
import java.util.List;
import java.util.Map;
import java.util.Set;
import java.util.regex.Matcher;
import java.util.regex.Pattern;

/**
 * Tests that are named by a place in the document and by its sentence. The sentence is looked up there,
 * and in the end no sentence of the terms and the promises may be without a test.
 */
final class Sentences {
    /** Asks all that one sentence says. */
    interface Test {
        void ask(Check check);
    }

    /** A line of the document, and what of it has a test. */
    private static final class Line {
        private final String text;
        private final boolean[] tested;

        Line(String text) {
            this.text = text;
            tested = new boolean[text.length()];
        }

        boolean take(String sentence) {
            int from = text.indexOf(sentence);
            for (int i = from; from >= 0 && i < from + sentence.length(); i++) {
                tested[i] = true;
            }
            return from >= 0;
        }

        List<String> untested() {
            List<String> parts = new ArrayList<>();
            int from = 0;
            for (String part : text.split("(?<=[.;]) ")) {
                boolean isTested = part.isEmpty();
                for (int i = from; i < from + part.length(); i++) {
                    isTested |= tested[i];
                }
                if (!isTested) {
                    parts.add(part);
                }
                from += part.length() + 1;
            }
            return parts;
        }
    }

    private static final Path DOCUMENT = Path.of("../shared/DOC.md");
    private static final Pattern HEADING = Pattern.compile("## (Promise \\d+|.*?)(:.*)?");
    private static final Pattern TERM = Pattern.compile("(\\d)\\. [A-Z ]+");

    private final Map<String, List<Line>> places = new LinkedHashMap<>();
    private final Set<String> names = new LinkedHashSet<>();
    private final Check check = new Check();
    private final String wanted;

    /** Runs the tests whose names hold what is wanted. */
    Sentences(String wanted) throws IOException {
        this.wanted = wanted;
        if (Files.exists(DOCUMENT)) {
            read(Files.readAllLines(DOCUMENT));
        }
    }

    private void read(List<String> document) {
        String place = "";
        for (String line : document) {
            Matcher heading = HEADING.matcher(line);
            Matcher term = TERM.matcher(line);
            if (heading.matches()) {
                place = heading.group(1);
            } else if (term.matches()) {
                place = "Terms " + term.group(1);
            } else if (line.startsWith("Ahead of the calls ")) {
                place = "Comments of the interface";
            } else if (!line.startsWith("```")) {
                // The head of a method stands ahead of what it does.
                String said = place.startsWith("Promise") ? line.replaceFirst("^`[^`]*`: ", "") : line;
                places.computeIfAbsent(place, key -> new ArrayList<>()).add(new Line(plain(said)));
            }
        }
    }

    private static String plain(String line) {
        return line.replace("`", "").replaceAll("\\s+", " ").trim();
    }

    /** The test of a sentence, or of a part of it, of this place in the document. */
    void test(String place, String sentence, Test test) {
        String name = place + ": " + sentence;
        check.name(name);
        if (!names.add(name)) {
            check.fail("two tests have this name");
        }
        lookUp(place, sentence);
        if (!name.contains(wanted)) {
            return;
        }
        int asked = check.asked();
        try {
            test.ask(check);
        } catch (RuntimeException e) {
            check.fail("threw " + e);
        }
        if (check.asked() == asked) {
            check.fail("asks nothing");
        }
    }

    private void lookUp(String place, String sentence) {
        boolean isThere = places.isEmpty();
        for (Line line : places.getOrDefault(place, List.of())) {
            isThere |= line.take(sentence);
        }
        if (!isThere) {
            check.fail("the document does not say this there");
        }
    }

    void tellNames() {
        names.forEach(System.out::println);
    }

    /** Ends with what no test was made for. */
    void end(String label) {
        check.name("");
        for (Map.Entry<String, List<Line>> place : places.entrySet()) {
            if (place.getKey().matches("Promise \\d+|Terms.*")) {
                tellUntested(place.getKey(), place.getValue());
            }
        }
        check.end(label + " (" + names.size() + " sentences)");
    }

    private void tellUntested(String place, List<Line> lines) {
        for (Line line : lines) {
            for (String part : line.untested()) {
                check.fail(place + " has no test of: " + part);
            }
        }
    }
}
