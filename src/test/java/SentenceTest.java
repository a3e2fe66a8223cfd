import java.io.IOException;
import java.lang.reflect.Method;
import java.nio.file.Files;
import java.nio.file.Path;
import java.util.ArrayList;
import java.util.LinkedHashSet;
import java.util.List;
import java.util.Map;
import java.util.Set;
import java.util.regex.Matcher;
import java.util.regex.Pattern;

/**
 * Compares the sentences of ../shared/DOC.md with those that the sections under src/test/runs quote: each one that
 * says what the class must do has a section of its own, and no section quotes what the document does not say.
 */
public final class SentenceTest {
    private static final String ORDER = "If several exceptions apply, the one that is listed first is thrown";

    /** What no call can show. */
    private static final Set<String> NOT_TESTED = Set.of(
            "The class is not thread-safe", "A compiler of address books", "what later calls answer is free");

    private final Set<String> due = new LinkedHashSet<>();
    private int wrong;

    public static void main(String[] args) throws IOException {
        SentenceTest test = new SentenceTest();
        String document = Files.readString(Path.of("../shared/DOC.md"));
        test.readTerms(document);
        test.readPromises(document);
        int count = test.due.size();
        test.compare(Script.sections());
        System.out.println("SentenceTest: " + count + " sentences, " + test.wrong + " wrong");
        System.exit(test.wrong == 0 ? 0 : 1);
    }

    private void readTerms(String document) {
        String terms = part(document, "## What it is", "## The public face") + "\n\n"
                + part(document, "## Terms", "## Promise 1:");
        for (String paragraph : terms.split("\n\n+")) {
            String text = paragraph.replaceAll("\\s+", " ").trim().replaceFirst("^[A-Z]\\w*( \\w+){0,2}\\. ", "");
            if (!text.startsWith("Ahead of the calls ")) {
                for (String sentence : text.split("[.;:]( |$)")) {
                    addDue(0, sentence.trim());
                }
            }
        }
    }

    private void readPromises(String document) {
        Map<String, Method> face = Calls.of(Cardmeld.class);
        Matcher headings = Pattern.compile("## Promise (\\d+): (.*)\n").matcher(document);
        while (headings.find()) {
            int promise = Integer.parseInt(headings.group(1));
            String text = document.substring(headings.end(), document.indexOf("\n## ", headings.end()));
            for (String paragraph : text.split("\n\n+")) {
                String line = paragraph.replaceAll("\\s+", " ").trim();
                if (!line.startsWith("- ")) {
                    addDue(promise, line.replaceFirst("^`[^`]*`: ", ""));
                }
            }
            // What an argument's line says behind a comma is more than its name.
            Matcher arguments = Pattern.compile("(?m)^- `\\w+`: (.*,.*)$").matcher(text);
            while (arguments.find()) {
                addDue(promise, arguments.group(1));
            }
            Method method = face.get(headings.group(2));
            if (method != null && method.getExceptionTypes().length > 1) {
                addDue(promise, ORDER);
            }
        }
    }

    private static String part(String document, String from, String to) {
        int start = document.indexOf(from) + from.length();
        return document.substring(start, document.indexOf(to, start));
    }

    private void addDue(int promise, String sentence) {
        if (!sentence.isEmpty() && !NOT_TESTED.contains(sentence)) {
            due.add(promise + " " + sentence);
        }
    }

    private void compare(List<Script.Section> sections) {
        Set<String> quoted = new LinkedHashSet<>();
        for (Script.Section section : sections) {
            if (!section.quote.isEmpty()) {
                quoted.add(section.promise + " " + section.quote);
                expect(due.contains(section.promise + " " + section.quote),
                        "the document does not say: " + section.quote + ", section " + section.title);
            }
        }
        List<String> missed = new ArrayList<>(due);
        missed.removeAll(quoted);
        for (String sentence : missed) {
            expect(false, "no section of its own (0 is the terms): " + sentence);
        }
    }

    private void expect(boolean holds, String otherwise) {
        if (!holds) {
            wrong++;
            System.out.println(otherwise);
        }
    }
}
