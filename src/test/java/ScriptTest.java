import java.io.IOException;
import java.lang.reflect.Method;
import java.nio.file.Files;
import java.nio.file.Path;
import java.util.ArrayList;
import java.util.List;
import java.util.Map;
import java.util.Set;
import java.util.TreeSet;
import java.util.stream.Collectors;
import java.util.stream.Stream;

/**
 * Runs the texts under src/test/runs. A line "== promise 6: .." starts a section with a new object, a line
 * "letter 0 'a' = 1" is a call with the answer that is due, "letter 9 'a' ! IllegalArgumentException" one that throws.
 * The lines ".book 3", ".name 0 bob" and ".query bob" are short for the calls that add a source with the rank 5 and
 * cards of it, give a card a name, and give the query letters.
 */
public final class ScriptTest {
    private static final int PROMISES = 45;
    private static final int MAX_CALLS = 512;

    private final Map<String, Method> face = Calls.of(Cardmeld.class);
    private final Set<Integer> promises = new TreeSet<>();
    private final Set<String> thrown = new TreeSet<>();
    private final Set<String> answered = new TreeSet<>();
    private String section = "";
    private Cardmeld made;
    private int calls;
    private int sections;
    private int wrong;

    public static void main(String[] args) throws IOException {
        ScriptTest test = new ScriptTest();
        for (Path file : files()) {
            test.runFile(file);
        }
        test.checkThatAllIsTested();
        System.out.println("ScriptTest: " + test.sections + " sections, " + test.wrong + " wrong");
        System.exit(test.wrong == 0 ? 0 : 1);
    }

    private static List<Path> files() throws IOException {
        try (Stream<Path> all = Files.list(Path.of("src/test/runs"))) {
            return all.filter(path -> path.toString().endsWith(".txt")).sorted().collect(Collectors.toList());
        }
    }

    private void runFile(Path file) throws IOException {
        int number = 0;
        for (String line : Files.readAllLines(file)) {
            number++;
            String words = line.trim();
            if (!words.isEmpty() && !words.startsWith("#")) {
                runLine(file.getFileName() + ":" + number, words);
            }
        }
    }

    private void runLine(String place, String line) {
        if (line.startsWith("== promise ")) {
            section = line;
            promises.add(Integer.parseInt(line.substring(11, line.indexOf(':'))));
            sections++;
            made = new Cardmeld();
            calls = 0;
        } else if (line.startsWith(".")) {
            runShorthand(place, line.split(" +"));
        } else {
            runCall(place, line);
        }
    }

    private void runShorthand(String place, String[] words) {
        if (words[0].equals(".book")) {
            runCall(place, "addSource 5 = 0");
            for (int card = 0; card < Integer.parseInt(words[1]); card++) {
                runCall(place, "addCard 0 = " + card);
            }
        } else if (words[0].equals(".name")) {
            run("clearName " + words[1]);
            for (int index = 0; index < words[2].length(); index++) {
                runCall(place, "letter " + words[1] + " '" + words[2].charAt(index) + "' = " + (index + 1));
            }
        } else if (words[0].equals(".query")) {
            run("clearQuery");
            for (int index = 0; index < words[1].length(); index++) {
                runCall(place, "type '" + words[1].charAt(index) + "' = " + (index + 1));
            }
        } else {
            throw new IllegalStateException(place + ": " + words[0]);
        }
    }

    private void runCall(String place, String line) {
        int mark = Math.max(line.lastIndexOf(" = "), line.lastIndexOf(" ! "));
        if (mark < 0) {
            throw new IllegalStateException(place + ": no answer in " + line);
        }
        String call = line.substring(0, mark);
        String due = line.substring(mark + 3).trim();
        String name = call.split(" ")[0];
        if (line.charAt(mark + 1) == '!') {
            due = "!" + due;
            thrown.add(name + " " + due);
        } else {
            answered.add(name);
        }
        String got = run(call);
        if (!got.equals(due(due))) {
            wrong++;
            System.out.println(place + " (" + section + "): " + call + " answered " + got + ", due is " + due);
        }
    }

    /** The text that is due; a share is written as 2/3. */
    private static String due(String text) {
        int slash = text.indexOf('/');
        if (slash < 0 || text.startsWith("'")) {
            return text;
        }
        float all = Float.parseFloat(text.substring(slash + 1));
        return String.valueOf(Float.parseFloat(text.substring(0, slash)) / all);
    }

    private String run(String call) {
        List<String> words = wordsOf(call);
        Method method = face.get(words.get(0));
        if (method == null) {
            throw new IllegalStateException("no such call: " + call);
        }
        Object[] arguments = new Object[words.size() - 1];
        for (int index = 0; index < arguments.length; index++) {
            arguments[index] = value(words.get(index + 1), method.getParameterTypes()[index]);
        }
        calls++;
        if (calls > MAX_CALLS) {
            throw new IllegalStateException(section + " has too many calls");
        }
        return Calls.answer(made, method, arguments);
    }

    /** The words of a call; a sign in quotes is one word, also a space. */
    private static List<String> wordsOf(String call) {
        List<String> words = new ArrayList<>();
        int at = 0;
        while (at < call.length()) {
            int end = call.charAt(at) == '\'' ? at + 3 : call.indexOf(' ', at);
            end = end < 0 ? call.length() : end;
            words.add(call.substring(at, end));
            at = end + 1;
        }
        return words;
    }

    private static Object value(String word, Class<?> type) {
        if (type == char.class) {
            return word.startsWith("'") ? word.charAt(1) : (char) Integer.parseInt(word);
        }
        if (type == boolean.class) {
            return Boolean.valueOf(word);
        }
        return Integer.valueOf(word);
    }

    private void checkThatAllIsTested() {
        for (int promise = 1; promise <= PROMISES; promise++) {
            if (!promises.contains(promise)) {
                miss("no section for promise " + promise);
            }
        }
        for (Method method : face.values()) {
            if (!answered.contains(method.getName())) {
                miss("no answer of " + method.getName());
            }
            for (Class<?> exception : method.getExceptionTypes()) {
                if (!thrown.contains(method.getName() + " !" + exception.getSimpleName())) {
                    miss("no " + exception.getSimpleName() + " of " + method.getName());
                }
            }
        }
    }

    private void miss(String what) {
        wrong++;
        System.out.println(what);
    }
}
