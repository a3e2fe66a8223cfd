import java.io.IOException;
import java.lang.reflect.Method;
import java.util.List;
import java.util.Set;
import java.util.TreeSet;

/**
 * Runs the texts under src/test/runs, whose form {@link Script} tells, and looks whether they test all that they
 * should: an answer of each call, each of its exceptions, and the greatest and the least int for each number.
 */
public final class ScriptTest {
    private final Set<String> tested = new TreeSet<>();
    private int wrong;

    public static void main(String[] args) throws IOException {
        ScriptTest test = new ScriptTest();
        List<Script.Section> sections = Script.sections();
        for (Script.Section section : sections) {
            test.run(section);
        }
        test.checkThatAllIsTested();
        System.out.println("ScriptTest: " + sections.size() + " sections, " + test.wrong + " wrong");
        System.exit(test.wrong == 0 ? 0 : 1);
    }

    private void run(Script.Section section) {
        Cardmeld made = new Cardmeld();
        for (Script.Call call : section.calls) {
            String got = call.answerOf(made);
            boolean right = call.due == null ? !got.startsWith("!") : got.equals(call.due);
            if (!right) {
                wrong++;
                System.out.println(call.place + ", section " + section.title + ": " + call.text + " answered " + got);
            }
            remember(call);
        }
    }

    private void remember(Script.Call call) {
        String name = call.method.getName();
        tested.add(name + (call.isRefused() ? " " + call.due : ""));
        for (int index = 0; index < call.arguments.length; index++) {
            tested.add(name + " " + index + " " + call.arguments[index]);
        }
    }

    private void checkThatAllIsTested() {
        for (Method method : Calls.of(Cardmeld.class).values()) {
            expect(method.getName());
            for (Class<?> exception : method.getExceptionTypes()) {
                expect(method.getName() + " !" + exception.getSimpleName());
            }
            for (int index = 0; index < method.getParameterCount(); index++) {
                if (method.getParameterTypes()[index] == int.class) {
                    expect(method.getName() + " " + index + " " + Integer.MAX_VALUE);
                    expect(method.getName() + " " + index + " " + Integer.MIN_VALUE);
                }
            }
        }
    }

    private void expect(String what) {
        if (!tested.contains(what)) {
            wrong++;
            System.out.println("no section tests: " + what);
        }
    }
}
