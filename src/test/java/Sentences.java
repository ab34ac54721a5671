import java.io.IOException;
import java.io.UncheckedIOException;
import java.nio.file.Files;
import java.nio.file.Path;
import java.util.ArrayList;
import java.util.Comparator;
import java.util.List;

/** Tests of single sentences of the document, each named by its promise and by the document's own words. */
final class Sentences {
    /** Stands for what the document says ahead of promise 1. */
    static final int TERMS = 0;

    private static final Path DOCUMENT = Path.of("../shared/DOC.md");
    private static final List<Named> tested = new ArrayList<>();

    private record Named(int promise, String words) {
        @Override
        public String toString() {
            return (promise == TERMS ? "Terms" : "Promise " + promise) + ", \"" + words + "\"";
        }
    }

    private Sentences() {
    }

    /** What the test finds wrong is told with the promise and the sentence. */
    static void test(int promise, String words, Runnable test) {
        Named named = new Named(promise, words);
        Check.about(named + ": ");
        if (tested.contains(named)) {
            Check.wrong("has two tests");
        }
        tested.add(named);
        int before = Check.made();
        try {
            test.run();
        } catch (RuntimeException e) {
            Check.wrong("the test ended with " + e);
        }
        if (Check.made() == before) {
            Check.wrong("the test checked nothing");
        }
        Check.about("");
    }

    /** Ends a test, which must have named each sentence of these promises, in the document's own words. */
    static void end(int... promises) {
        for (int promise : promises) {
            List<String> words = tested.stream().filter(named -> named.promise == promise).map(Named::words)
                    .sorted(Comparator.comparing(String::length).reversed()).toList();
            List<String> lines = linesOf(promise);
            if (lines.isEmpty()) {
                Check.wrong("the document has no promise " + promise);
            }
            for (String part : words) {
                if (lines.stream().noneMatch(line -> line.contains(part))) {
                    Check.wrong("the document does not say: " + new Named(promise, part));
                }
            }
            for (String line : lines) {
                dueNamed(promise, line, words);
            }
        }
        Check.end();
    }

    private static void dueNamed(int promise, String line, List<String> words) {
        String rest = line;
        for (String part : words) {
            rest = rest.replace(part, "...");
        }
        if (rest.chars().anyMatch(Character::isLetterOrDigit)) {
            Check.wrong("no test names: " + new Named(promise, rest));
        }
    }

    private static List<String> linesOf(int promise) {
        List<String> lines = new ArrayList<>();
        boolean isInside = false;
        for (String line : document()) {
            if (line.startsWith("## ")) {
                isInside = promise == TERMS ? line.equals("## What it is") || line.equals("## Terms")
                        : line.startsWith("## Promise " + promise + ":");
            } else if (isInside && !line.isBlank() && !isHeading(promise, line)) {
                lines.add(line.replaceFirst("^`[^`]*`: ", ""));
            }
        }
        return lines;
    }

    /** Among the terms, headings are also bare words without a full stop, the summary, and the titles of groups of calls. */
    private static boolean isHeading(int promise, String line) {
        boolean isBare = promise == TERMS && !line.endsWith(".");
        boolean isTitle = line.startsWith("Ahead of the calls") && !line.endsWith("nothing is changed.");
        return line.startsWith("#") || isBare || isTitle || line.startsWith("A laundry's ticket room: ");
    }

    private static List<String> document() {
        try {
            return Files.readAllLines(DOCUMENT);
        } catch (IOException e) {
            throw new UncheckedIOException(e);
        }
    }
}
