import java.io.IOException;
import java.nio.file.Files;
import java.nio.file.Path;
import java.util.LinkedHashSet;
import java.util.Set;

/**
 * Sentences of the document with a test each. What stands between two semicolons counts as a sentence of its own,
 * and a sentence that stands twice in a section bears "(2)" the second time.
 */
final class Sentences {
    static final int TERMS = 0;
    private static final int ELSEWHERE = -1;

    /** The test of a sentence. */
    interface Check {
        void run(Testing t);
    }

    private final Testing testing;
    private final Set<String> tested = new LinkedHashSet<>();
    private final Set<String> withoutBoundary = new LinkedHashSet<>();

    Sentences(String name) {
        testing = new Testing(name);
    }

    /** Runs the test of a sentence of a promise, or of what stands before the promises; what the test itself throws is a fault of it. */
    void test(int promise, String words, Check check) {
        String sentence = name(promise, words);
        testing.about(sentence);
        testing.due("the sentence has one test only", tested.add(sentence), true);
        int before = testing.answers();
        try {
            check.run(testing);
        } catch (RuntimeException e) {
            testing.due("the test", "threw " + e, "ended");
        }
        testing.due("the test asks something", testing.answers() > before, true);
    }

    void withoutBoundary(int promise, String... sentences) {
        for (String words : sentences) {
            withoutBoundary.add(name(promise, words));
        }
    }

    private static String name(int promise, String words) {
        return (promise == TERMS ? "Terms: " : "Promise " + promise + ": ") + words;
    }

    /** Asks that just the sentences of the document stand here, each either with a test or as one without a boundary. */
    void compareWith(Path document) throws IOException {
        Set<String> written = sentencesOf(document);
        for (String sentence : written) {
            testing.about(sentence);
            testing.due("the sentence is known", tested.contains(sentence) || withoutBoundary.contains(sentence), true);
            testing.due("it is tested, and without a boundary", tested.contains(sentence) && withoutBoundary.contains(sentence), false);
        }
        Set<String> known = new LinkedHashSet<>(tested);
        known.addAll(withoutBoundary);
        for (String sentence : known) {
            testing.about(sentence);
            testing.due("the sentence stands in the document", written.contains(sentence), true);
        }
    }

    void end() {
        System.out.println(tested.size() + " sentences have a test");
        testing.end();
    }

    private static Set<String> sentencesOf(Path document) throws IOException {
        Set<String> sentences = new LinkedHashSet<>();
        boolean code = false;
        int promise = ELSEWHERE;
        for (String line : Files.readAllLines(document)) {
            if (line.startsWith("```")) {
                code = !code;
            } else if (line.startsWith("#")) {
                promise = promiseOf(line);
            } else if (!code && promise != ELSEWHERE && !line.isBlank()) {
                for (String words : plain(line)) {
                    if (!sentences.add(name(promise, words))) {
                        sentences.add(name(promise, words + " (2)"));
                    }
                }
            }
        }
        return sentences;
    }

    private static int promiseOf(String heading) {
        if (heading.equals("## What it is") || heading.equals("## Terms")) {
            return TERMS;
        }
        return heading.matches("## Promise \\d+: .*") ? Integer.parseInt(heading.replaceAll("## Promise (\\d+): .*", "$1")) : ELSEWHERE;
    }

    /** Cuts a line into its sentences, without the face of a call, marks of a list and the signs at the ends. */
    private static String[] plain(String line) {
        String words = line.replaceFirst("^`[^`]*`: ", "").replaceFirst("^- ", "").replaceFirst("^\\d\\. ", "").replace("`", "").strip();
        String[] parts = line.matches("[a-z]+ = .*") ? new String[] {words} : words.split("(?<=[.;]) +");
        for (int i = 0; i < parts.length; i++) {
            parts[i] = parts[i].replaceFirst("[.;:]$", "");
        }
        return parts;
    }
}
