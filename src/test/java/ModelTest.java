import java.lang.reflect.Method;
import java.util.ArrayList;
import java.util.Arrays;
import java.util.HashMap;
import java.util.List;
import java.util.Map;
import java.util.Random;
import java.util.TreeMap;

/**
 * Makes the same random calls on the class and on the model and compares each answer. The seeds are the numbers of
 * the runs, so that a run that differs can be made again; it is told from its first call.
 */
public final class ModelTest {
    private static final int RUNS = 6000;
    private static final int CALLS = 512;
    private static final int[] STRANGE = {-1, -2, Integer.MIN_VALUE, Integer.MAX_VALUE, 4, 10, 16, 30, 1000, 41, -41};
    private static final String STRANGE_LETTERS = "AZ`{ 0\u0000\u00e9\uffff";

    /** The kinds of the arguments of each call that has some. */
    private static final String[] KINDS = {
        "addSource rank", "setRank source rank", "addCard source", "letter card letter", "clearName card",
        "setNumber card field value", "nameLength card", "nameAt card index", "soundAt card index",
        "number card field", "setWeights field weight weight", "setThreshold threshold", "score card card",
        "forbid card card", "allow card card", "why card card", "barOne card card", "barOther card card",
        "merge card card", "undo merge", "stands merge", "steps card card", "person card", "personByRounds card",
        "size card", "fieldFrom card field", "conflicts card", "join group card", "leave group card",
        "isIn group card", "personsIn group", "type letter", "found flag", "foundAt flag index",
    };

    private static final List<String> RARE = List.of("clearQuery", "setThreshold", "setWeights", "undo", "forbid");
    private static final List<String> OF_MERGES = List.of("merge", "mergeBest", "undo", "setNumber");

    private final Map<String, Method> face = Calls.of(Cardmeld.class);
    private final Map<String, Method> model = Calls.of(Model.class);
    private final Map<String, String[]> kinds = new HashMap<>();
    private final Map<String, Integer> answers = new TreeMap<>();

    private Random random;
    private String alphabet;
    private int values;
    private int books;

    public static void main(String[] args) {
        ModelTest test = new ModelTest();
        for (String line : KINDS) {
            String[] words = line.split(" ");
            test.kinds.put(words[0], Arrays.copyOfRange(words, 1, words.length));
        }
        int wrong = 0;
        for (int run = 0; run < RUNS && wrong < 5; run++) {
            wrong += test.runSame(run) ? 0 : 1;
        }
        wrong += test.countUnseen();
        System.out.println("ModelTest: " + RUNS + " runs of " + CALLS + " calls, " + wrong + " wrong");
        System.exit(wrong == 0 ? 0 : 1);
    }

    private boolean runSame(int run) {
        random = new Random(run);
        alphabet = new String[] {"abcdefghijklmnopqrstuvwxyz", "abpct", "mn", "bov", "abcdlmrh"}[random.nextInt(5)];
        values = new int[] {1, 2, 4, 1000}[random.nextInt(4)];
        books = new int[] {2, 3, 5, 8, 16}[random.nextInt(5)];
        List<String> menu = menu();
        Cardmeld made = new Cardmeld();
        Model due = new Model();
        List<String> told = new ArrayList<>();
        for (int call = 0; call < CALLS; call++) {
            String name = call < 20 && random.nextInt(3) > 0 ? opening(due) : menu.get(random.nextInt(menu.size()));
            Object[] arguments = arguments(name, due);
            String want = Calls.answer(due, model.get(name), arguments);
            String got = Calls.answer(made, face.get(name), arguments);
            told.add(name + Arrays.toString(arguments) + " = " + want);
            answers.merge(name + (want.startsWith("!") ? " " + want : ""), 1, Integer::sum);
            if (!got.equals(want)) {
                System.out.println("run " + run + " answered " + got + " to the last of these calls:");
                told.forEach(System.out::println);
                return false;
            }
        }
        return true;
    }

    private String opening(Model due) {
        return due.cards() == 0 ? random.nextBoolean() ? "addSource" : "addCard"
                : due.cards() < books ? "addCard" : "letter";
    }

    /** The calls of a run, each as often as it is likely; the weights differ from run to run. */
    private List<String> menu() {
        List<String> menu = new ArrayList<>();
        boolean manyMerges = random.nextInt(4) == 0;
        for (String name : face.keySet()) {
            int often = random.nextInt(4) == 0 ? 12 : 1 + random.nextInt(4);
            if (name.equals("addCard") && books < 16 || RARE.contains(name) && (manyMerges || random.nextBoolean())) {
                often = 1;
            }
            if (manyMerges && OF_MERGES.contains(name)) {
                often = 60;
            }
            for (int count = 0; count < often * (name.equals("letter") ? 4 : 1); count++) {
                menu.add(name);
            }
        }
        return menu;
    }

    private Object[] arguments(String name, Model due) {
        String[] wanted = kinds.getOrDefault(name, new String[0]);
        Object[] arguments = new Object[wanted.length];
        for (int index = 0; index < wanted.length; index++) {
            arguments[index] = argument(wanted[index], due);
        }
        return arguments;
    }

    private Object argument(String kind, Model due) {
        boolean strange = random.nextInt(40) == 0;
        if (kind.equals("letter")) {
            String from = strange ? STRANGE_LETTERS : alphabet;
            return from.charAt(random.nextInt(from.length()));
        }
        if (kind.equals("flag")) {
            return random.nextBoolean();
        }
        return strange ? STRANGE[random.nextInt(STRANGE.length)] : plain(kind, due);
    }

    private int plain(String kind, Model due) {
        switch (kind) {
            case "card":
                return below(due.cards());
            case "merge":
                return Math.max(0, random.nextInt(4) == 0 ? below(due.mergesMade())
                        : due.mergesMade() - 1 - random.nextInt(5));
            case "source":
            case "group":
                return random.nextInt(4);
            case "field":
                return random.nextInt(4);
            case "rank":
                return random.nextInt(11);
            case "value":
                return random.nextInt(values + 1) - 1;
            case "weight":
                return random.nextInt(10) == 0 ? random.nextInt(23) - 11 : random.nextInt(19) - 9;
            case "threshold":
                return random.nextInt(3) == 0 ? random.nextInt(87) - 43 : random.nextInt(12) - 6;
            case "index":
                return random.nextInt(11);
            default:
                throw new IllegalStateException(kind);
        }
    }

    /** Mostly a number below a size, now and then the size itself. */
    private int below(int size) {
        return random.nextInt(size + (size == 0 || random.nextInt(20) == 0 ? 1 : 0));
    }

    /** Each call has to answer in these runs, and each exception of the face to be thrown, else they show little. */
    private int countUnseen() {
        int unseen = 0;
        for (Method method : face.values()) {
            List<String> due = new ArrayList<>(List.of(method.getName()));
            for (Class<?> exception : method.getExceptionTypes()) {
                due.add(method.getName() + " !" + exception.getSimpleName());
            }
            for (String answer : due) {
                if (answers.getOrDefault(answer, 0) < 20) {
                    unseen++;
                    System.out.println("the runs hardly show: " + answer + " " + answers.getOrDefault(answer, 0));
                }
            }
        }
        return unseen;
    }
}
