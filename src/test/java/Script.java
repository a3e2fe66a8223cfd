import java.io.IOException;
import java.lang.reflect.Method;
import java.nio.file.Files;
import java.nio.file.Path;
import java.util.ArrayList;
import java.util.List;
import java.util.Map;
import java.util.stream.Collectors;
import java.util.stream.Stream;

/**
 * Reads the texts under src/test/runs. A line "== promise 6: .." or "== terms: .." starts a section with a new object;
 * a line that begins with a quotation mark quotes the sentence of ../shared/DOC.md that the section tests. A line
 * "letter 0 'a' = 1" is a call with the answer that is due, "letter 9 'a' ! IllegalArgumentException" one that throws,
 * and "cards" alone one whose answer is not looked at. These lines are short for several calls:
 *
 * ".book 3" adds a source with the rank 5 and cards of it, ".name 0 bob" gives a card a name, ".query bob" gives the
 * query letters, ".forbid 12" forbids that many cards with the card 0, ".again 0 1 29" merges two cards and undoes
 * the merge so many times, from the merge 0 on, and ".idle 9" makes calls that change nothing. A line
 * ".each 0 1 2: addCard ? = ?" makes a call with each of the words in the place of the question marks.
 */
final class Script {
    static final int MAX_CALLS = 512;

    /** A call; an answer that is due and starts with '!' is an exception, and null is any answer but an exception. */
    static final class Call {
        final String place;
        final String text;
        final Method method;
        final Object[] arguments;
        final String due;

        Call(String place, String text, Method method, Object[] arguments, String due) {
            this.place = place;
            this.text = text;
            this.method = method;
            this.arguments = arguments;
            this.due = due;
        }

        String answerOf(Cardmeld made) {
            return Calls.answer(made, method, arguments);
        }

        boolean isRefused() {
            return due != null && due.startsWith("!");
        }
    }

    /** A run of calls on a new object; the promise 0 stands for the terms, and a section need not quote anything. */
    static final class Section {
        final String title;
        final int promise;
        String quote = "";
        final List<Call> calls = new ArrayList<>();

        Section(String title, int promise) {
            this.title = title;
            this.promise = promise;
        }
    }

    private static final Map<String, Method> FACE = Calls.of(Cardmeld.class);

    private final List<Section> sections = new ArrayList<>();
    private String place = "";

    private Script() {
    }

    static List<Section> sections() throws IOException {
        Script script = new Script();
        for (Path file : files()) {
            int number = 0;
            for (String line : Files.readAllLines(file)) {
                number++;
                script.place = file.getFileName() + ":" + number;
                script.read(line.trim());
            }
        }
        return script.sections;
    }

    private static List<Path> files() throws IOException {
        try (Stream<Path> all = Files.walk(Path.of("src/test/runs"))) {
            return all.filter(path -> path.toString().endsWith(".txt")).sorted().collect(Collectors.toList());
        }
    }

    private void read(String line) {
        if (line.isEmpty() || line.startsWith("#")) {
            return;
        }
        if (line.startsWith("== terms: ")) {
            sections.add(new Section(place + " (" + line.substring(3) + ")", 0));
        } else if (line.startsWith("== promise ")) {
            int promise = Integer.parseInt(line.substring(11, line.indexOf(':')));
            sections.add(new Section(place + " (" + line.substring(3) + ")", promise));
        } else if (line.startsWith("\" ")) {
            require(section().quote.isEmpty(), "two quotes in one section");
            section().quote = line.substring(2).trim();
        } else if (line.startsWith(".each ")) {
            int colon = line.indexOf(": ");
            require(colon >= 0, "no colon");
            for (String word : line.substring(6, colon).split(" +")) {
                readCall(line.substring(colon + 2).replace("?", word));
            }
        } else if (line.startsWith(".")) {
            readShorthand(line.split(" +"));
        } else {
            readCall(line);
        }
    }

    private Section section() {
        require(!sections.isEmpty(), "no section");
        return sections.get(sections.size() - 1);
    }

    private void readShorthand(String[] words) {
        switch (words[0]) {
            case ".book":
                readCall("addSource 5 = 0");
                repeat(Integer.parseInt(words[1]), "addCard 0 = %1$d");
                break;
            case ".name":
                readCall("clearName " + words[1]);
                readLetters("letter " + words[1], words[2]);
                break;
            case ".query":
                readCall("clearQuery");
                readLetters("type", words[1]);
                break;
            case ".forbid":
                repeat(Integer.parseInt(words[1]), "forbid 0 %2$d = %2$d");
                break;
            case ".again":
                repeat(Integer.parseInt(words[3]), "merge " + words[1] + " " + words[2] + " = %1$d", "undo %1$d");
                break;
            case ".idle":
                repeat(Integer.parseInt(words[1]), "cards");
                break;
            default:
                require(false, "no such shorthand");
        }
    }

    /** Reads calls as often as said; %1$d in them is a number from 0 on, %2$d one from 1 on. */
    private void repeat(int times, String... calls) {
        for (int time = 0; time < times; time++) {
            for (String call : calls) {
                readCall(String.format(call, time, time + 1));
            }
        }
    }

    private void readLetters(String call, String letters) {
        for (int index = 0; index < letters.length(); index++) {
            readCall(call + " '" + letters.charAt(index) + "' = " + (index + 1));
        }
    }

    private void readCall(String line) {
        int mark = Math.max(line.lastIndexOf(" = "), line.lastIndexOf(" ! "));
        String due = mark < 0 ? null : line.substring(mark + 3).trim();
        if (mark >= 0) {
            due = line.charAt(mark + 1) == '!' ? "!" + due : answer(due);
        }
        List<String> words = wordsOf(mark < 0 ? line : line.substring(0, mark));
        Method method = FACE.get(words.get(0));
        require(method != null, "no such call: " + line);
        require(method.getParameterCount() == words.size() - 1, "not so many arguments: " + line);
        Object[] arguments = new Object[words.size() - 1];
        for (int index = 0; index < arguments.length; index++) {
            arguments[index] = value(words.get(index + 1), method.getParameterTypes()[index]);
        }
        section().calls.add(new Call(place, line, method, arguments, due));
        require(section().calls.size() <= MAX_CALLS, "too many calls");
    }

    /** The answer that is due as a text; a share is written as 2/3. */
    private static String answer(String text) {
        int slash = text.indexOf('/');
        if (slash < 0 || text.startsWith("'")) {
            return text;
        }
        float all = Float.parseFloat(text.substring(slash + 1));
        return String.valueOf(Float.parseFloat(text.substring(0, slash)) / all);
    }

    /** The words of a call; a sign in quotes is one word, also a space. */
    private static List<String> wordsOf(String call) {
        List<String> words = new ArrayList<>();
        int at = 0;
        while (at < call.length()) {
            int end = call.charAt(at) == '\'' ? at + 3 : call.indexOf(' ', at);
            end = end < 0 ? call.length() : end;
            words.add(call.substring(at, end));
            at = end + 1;
        }
        return words;
    }

    private static Object value(String word, Class<?> type) {
        if (type == char.class) {
            return word.startsWith("'") ? word.charAt(1) : (char) Integer.parseInt(word);
        }
        if (type == boolean.class) {
            return Boolean.valueOf(word);
        }
        return Integer.valueOf(word);
    }

    private void require(boolean holds, String otherwise) {
        if (!holds) {
            throw new IllegalStateException(place + ": " + otherwise);
        }
    }
}
