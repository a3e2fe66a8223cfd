import java.lang.reflect.Constructor;
import java.lang.reflect.Field;
import java.lang.reflect.Method;
import java.lang.reflect.Modifier;
import java.nio.file.Files;
import java.nio.file.Path;
import java.util.Map;
import java.util.Set;
import java.util.TreeMap;
import java.util.TreeSet;
import java.util.regex.Matcher;
import java.util.regex.Pattern;

/** Compares the class with the face in ../shared/DOC.md and with those rules of LANGUAGE.md that a test can see. */
public final class FaceTest {
    private static int wrong;

    public static void main(String[] args) throws Exception {
        checkFace(Files.readString(Path.of("../shared/DOC.md")));
        checkSource(Files.readString(Path.of("src/main/java/Cardmeld.java")));
        System.out.println("FaceTest: " + wrong + " wrong");
        System.exit(wrong == 0 ? 0 : 1);
    }

    private static void checkFace(String document) {
        int start = document.indexOf("public final class Cardmeld {");
        String face = document.substring(start, document.indexOf("```", start));
        Set<String> due = new TreeSet<>();
        Matcher lines = Pattern.compile("public (\\w+ \\w+\\([^)]*\\)[^;]*);").matcher(face);
        while (lines.find()) {
            due.add(lines.group(1).replaceAll("(int|char|boolean) \\w+(?=[,)])", "$1"));
        }
        Set<String> got = new TreeSet<>();
        Set<String> hidden = new TreeSet<>();
        for (Method method : Cardmeld.class.getDeclaredMethods()) {
            if (Modifier.isPublic(method.getModifiers())) {
                got.add(signature(method));
            } else {
                hidden.add(method.getName());
                expect(Modifier.isPrivate(method.getModifiers()), method + " is not private");
            }
        }
        expect(due.size() == 44, "the document's face has " + due.size() + " methods");
        expect(due.equals(got), "the face is " + got + ", due is " + due);
        checkMembers(hidden);
    }

    private static void checkMembers(Set<String> hidden) {
        expect(Modifier.isFinal(Cardmeld.class.getModifiers()), "the class is not final");
        Constructor<?>[] constructors = Cardmeld.class.getDeclaredConstructors();
        expect(constructors.length == 1 && Modifier.isPublic(constructors[0].getModifiers())
                && constructors[0].getParameterCount() == 0, "the constructor is not the due one");
        for (Field field : Cardmeld.class.getDeclaredFields()) {
            expect(Modifier.isPrivate(field.getModifiers()), field + " is not private");
        }
        Map<String, Method> face = new TreeMap<>(Calls.of(Cardmeld.class));
        for (Class<?> inside : Cardmeld.class.getDeclaredClasses()) {
            for (Method method : inside.getDeclaredMethods()) {
                hidden.add(method.getName());
            }
        }
        hidden.retainAll(face.keySet());
        expect(hidden.isEmpty(), "these methods bear the names of public ones: " + hidden);
    }

    private static String signature(Method method) {
        StringBuilder text = new StringBuilder();
        text.append(method.getReturnType()).append(' ').append(method.getName()).append('(');
        for (int index = 0; index < method.getParameterCount(); index++) {
            text.append(index == 0 ? "" : ", ").append(method.getParameterTypes()[index]);
        }
        text.append(')');
        for (int index = 0; index < method.getExceptionTypes().length; index++) {
            text.append(index == 0 ? " throws " : ", ").append(method.getExceptionTypes()[index].getSimpleName());
        }
        return text.toString();
    }

    private static void checkSource(String source) {
        refuse(source, "import (?!java\\.util\\.(NoSuchElementException|List|ArrayList|Arrays|Iterator);)", "an import");
        refuse(source, "->|::", "a lambda or a method reference");
        refuse(source, "\\b(finally|synchronized|assert|catch)\\b", "a word that is not used here");
        refuse(source, "throw (?!new \\w+\\(\"[^\"]*\"\\);)", "a throw of another form");
        refuse(source, "[^\\x00-\\x7f]", "a sign above 127");
        // Rule 12: what a run makes is counted, so that only constructors and throws make objects here.
        refuse(source, "(?<!throw )(?<!private final [\\w\\[\\]]{1,20} \\w{1,20} = )(?<!book\\[card\\] = )\\bnew ",
                "an object made outside a constructor");
        refuse(source, "static (?!final|char|int|boolean)", "a static member that is not final");
        refuse(source, "\\b(while|do)\\b *[({]", "a loop without a counter");
        checkLengths(source);
    }

    private static void checkLengths(String source) {
        int lines = 0;
        for (String line : source.split("\n")) {
            lines = line.matches("( {4}| {8})}") || line.isBlank() ? 0 : lines + 1;
            expect(lines <= 60, "more than 60 lines without an end: " + line);
            expect(line.length() <= 120, "a long line: " + line);
        }
    }

    private static void refuse(String source, String pattern, String what) {
        Matcher matcher = Pattern.compile(pattern).matcher(source);
        if (matcher.find()) {
            expect(false, what + ": " + source.substring(matcher.start()).split("\n")[0]);
        }
    }

    private static void expect(boolean holds, String otherwise) {
        if (!holds) {
            wrong++;
            System.out.println(otherwise);
        }
    }
}
