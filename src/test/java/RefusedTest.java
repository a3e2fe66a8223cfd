import java.io.IOException;
import java.lang.reflect.Method;
import java.util.ArrayList;
import java.util.List;
import java.util.Map;

/**
 * "A method that throws an exception changes nothing": behind each call under src/test/runs that is due to throw, two
 * new objects, one with all the calls up to there and one without those that throw, have to give the same answers to
 * every call that can be asked of the cards, and to calls that change what is held.
 */
public final class RefusedTest {
    private static final Map<String, Method> FACE = Calls.of(Cardmeld.class);

    private int refused;
    private int compared;
    private int wrong;

    public static void main(String[] args) throws IOException {
        RefusedTest test = new RefusedTest();
        for (Script.Section section : Script.sections()) {
            test.checkSection(section);
        }
        System.out.println("RefusedTest: " + test.refused + " refused calls, " + test.compared + " later answers, "
                + test.wrong + " wrong");
        System.exit(test.wrong == 0 && test.refused > 0 ? 0 : 1);
    }

    private void checkSection(Script.Section section) {
        List<Script.Call> all = new ArrayList<>();
        List<Script.Call> without = new ArrayList<>();
        List<Questions> due = List.of();
        for (Script.Call call : section.calls) {
            all.add(call);
            if (call.isRefused()) {
                if (due.isEmpty()) {
                    due = askEachOn(without);
                }
                checkLaterAnswers(call, all, due);
            } else {
                without.add(call);
                due = List.of();
            }
        }
    }

    private void checkLaterAnswers(Script.Call call, List<Script.Call> all, List<Questions> due) {
        refused++;
        for (Questions questions : due) {
            Cardmeld made = made(all, questions);
            for (int index = 0; index < questions.names.size(); index++) {
                compared++;
                String got = questions.ask(made, index);
                if (!got.equals(questions.answers.get(index))) {
                    wrong++;
                    System.out.println(call.place + ": behind " + call.text + " " + questions.text(index)
                            + " answered " + got + ", due is " + questions.answers.get(index));
                    break;
                }
            }
        }
    }

    private static List<Questions> askEachOn(List<Script.Call> calls) {
        int cards = made(calls, new Questions()).cards();
        List<Questions> lists = List.of(ofNames(cards), ofScores(cards), ofPersons(cards), ofMerges(cards),
                ofWays(cards), changesOfCards(cards), changesOfValues(cards), changesOfMerges(cards), changesOfNames(cards));
        for (Questions questions : lists) {
            Cardmeld made = made(calls, questions);
            for (int index = 0; index < questions.names.size(); index++) {
                questions.answers.add(questions.ask(made, index));
            }
        }
        return lists;
    }

    private static Cardmeld made(List<Script.Call> calls, Questions questions) {
        if (calls.size() + questions.names.size() > Script.MAX_CALLS) {
            throw new IllegalStateException(calls.get(0).place + ": the section leaves no calls for the questions");
        }
        Cardmeld made = new Cardmeld();
        for (Script.Call call : calls) {
            call.answerOf(made);
        }
        return made;
    }

    private static Questions ofNames(int cards) {
        Questions questions = new Questions();
        questions.add("cards");
        for (int card = 0; card < cards; card++) {
            questions.add("nameLength", card);
            for (int index = 0; index < 10; index++) {
                questions.add("nameAt", card, index);
            }
            for (int index = 0; index < 4; index++) {
                questions.add("soundAt", card, index);
            }
        }
        return questions;
    }

    private static Questions ofScores(int cards) {
        Questions questions = new Questions();
        for (int card = 0; card < cards; card++) {
            for (int field = 1; field < 4; field++) {
                questions.add("number", card, field);
            }
            for (int other = 0; other < card; other++) {
                questions.add("score", card, other);
            }
        }
        for (String name : List.of("candidates", "bestScore", "bestScoreByPairs", "bestOne", "bestOther")) {
            questions.add(name);
        }
        return questions;
    }

    private static Questions ofPersons(int cards) {
        Questions questions = new Questions();
        for (int card = 0; card < cards; card++) {
            for (String name : List.of("person", "personByRounds", "size", "conflicts")) {
                questions.add(name, card);
            }
            for (int number = 0; number < 4; number++) {
                questions.add("fieldFrom", card, number);
                questions.add("isIn", number, card);
            }
            questions.add("foundAt", true, card);
            questions.add("foundAt", false, card);
        }
        for (int group = 0; group < 4; group++) {
            questions.add("personsIn", group);
        }
        questions.add("found", true);
        questions.add("found", false);
        questions.add("persons");
        questions.add("mergedShare");
        return questions;
    }

    private static Questions ofMerges(int cards) {
        Questions questions = new Questions();
        for (int card = 0; card < cards; card++) {
            for (int other = 0; other < cards; other++) {
                questions.add(card < other ? "why" : "barOther", card, other);
            }
        }
        for (int merge = 0; merge <= 30; merge++) {
            questions.add("stands", merge);
        }
        return questions;
    }

    private static Questions ofWays(int cards) {
        Questions questions = new Questions();
        for (int card = 0; card < cards; card++) {
            for (int other = 0; other < cards; other++) {
                questions.add(card < other ? "steps" : "barOne", card, other);
            }
        }
        return questions;
    }

    private static Questions changesOfCards(int cards) {
        Questions questions = new Questions();
        for (int number = 0; number < 4; number++) {
            questions.add("setRank", number, 5);
            questions.add("setWeights", number, number + 1, -number);
            for (int card = 0; card < cards; card++) {
                questions.add("join", number, card);
                questions.add("leave", number, card);
            }
        }
        questions.add("setThreshold", -40);
        for (String name : List.of("candidates", "bestScore", "clearQuery")) {
            questions.add(name);
        }
        for (int time = 0; time < 5; time++) {
            questions.add("addSource", 1 + time);
        }
        for (int time = cards; time <= 16; time++) {
            questions.add("addCard", 0);
        }
        for (int card = 0; card < cards; card++) {
            questions.add("clearName", card);
            for (int field = 1; field < 4; field++) {
                questions.add("setNumber", card, field, -1);
            }
        }
        return questions;
    }

    /** Gives each field of two cards the same and another value, so that each weight is seen. */
    private static Questions changesOfValues(int cards) {
        Questions questions = new Questions();
        for (int card = 1; card < cards; card += 2) {
            questions.add("clearName", card);
            questions.add("clearName", card - 1);
            questions.add("letter", card, 'a');
            questions.add("letter", card - 1, 'o');
            questions.add("score", card, card - 1);
            for (int field = 1; field < 4; field++) {
                questions.add("setNumber", card, field, 1);
                questions.add("setNumber", card - 1, field, 2);
                questions.add("score", card, card - 1);
            }
            questions.add("clearName", card);
            questions.add("letter", card, 'o');
            questions.add("score", card, card - 1);
            for (int field = 1; field < 4; field++) {
                questions.add("fieldFrom", card, field);
            }
        }
        return questions;
    }

    private static Questions changesOfMerges(int cards) {
        Questions questions = new Questions();
        questions.add("setThreshold", -40);
        for (int card = 0; card < cards; card++) {
            for (int other = 0; other < card; other++) {
                questions.add("allow", card, other);
            }
        }
        for (int time = 0; time < cards; time++) {
            questions.add("mergeBest");
            questions.add("candidates");
        }
        for (int merge = 30; merge >= 0; merge--) {
            questions.add("undo", merge);
        }
        for (int card = 1; card < cards; card++) {
            questions.add("forbid", card, 0);
            questions.add("merge", card, card - 1);
        }
        for (int time = 0; time < 31 && cards > 1; time++) {
            questions.add("merge", 0, 1);
            questions.add("undo", time);
        }
        return questions;
    }

    private static Questions changesOfNames(int cards) {
        Questions questions = new Questions();
        for (int time = 0; time < 11; time++) {
            questions.add("type", (char) ('a' + time));
            questions.add("found", true);
            for (int card = 0; card < cards; card++) {
                questions.add("letter", card, (char) ('l' + time));
            }
        }
        for (int card = 0; card < cards; card++) {
            for (int index = 0; index < 4; index++) {
                questions.add("soundAt", card, index);
            }
        }
        questions.add("clearQuery");
        return questions;
    }

    /** Calls with the answers that are due to them. */
    private static final class Questions {
        private final List<String> names = new ArrayList<>();
        private final List<Object[]> arguments = new ArrayList<>();
        private final List<String> answers = new ArrayList<>();

        void add(String name, Object... values) {
            names.add(name);
            arguments.add(values);
        }

        String ask(Cardmeld made, int index) {
            return Calls.answer(made, FACE.get(names.get(index)), arguments.get(index));
        }

        String text(int index) {
            return names.get(index) + List.of(arguments.get(index));
        }
    }
}
