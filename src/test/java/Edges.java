import java.io.IOException;
import java.lang.reflect.InvocationTargetException;
import java.lang.reflect.Method;
import java.nio.file.Files;
import java.nio.file.Path;
import java.util.ArrayList;
import java.util.Comparator;
import java.util.HashSet;
import java.util.List;
import java.util.Set;
import java.util.regex.Matcher;
import java.util.regex.Pattern;

/**
 * Runs tests that each hold one sentence of the document. A test's name tells the promise and the sentence in
 * short ("promise2RulesSixAtMost"); its annotation quotes the sentence, and the quote must stand in the document,
 * in the terms or under that very promise.
 */
final class Edges {
    private static final Path DOCUMENT = Path.of("../shared/DOC.md");
    private static final Pattern TEST_NAME = Pattern.compile("promise(\\d+)[A-Z]\\w+");
    private static final Pattern ANSWER_NAME = Pattern.compile("\\b(NONE|UNKNOWN|OUTSIDE|STATE|FULL|NO)\\b");

    private static final Set<String> MET = new HashSet<>();
    private static int promise = 0;
    private static String test = "";

    private Edges() {
    }

    /** Runs every test of a class, which must hold each of the promises from one to another. */
    static void run(Class<?> tests, int first, int last) throws IOException {
        String[] document = Files.readString(DOCUMENT).replaceAll("\\s+", " ").split("## Promise \\d+: ");
        List<Method> methods = testsOf(tests);
        for (Method method : methods) {
            promise = promiseOf(method);
            test = method.getName();
            holdsInRange(promise >= first && promise <= last);
            quoted(method, document);
            runTest(method);
        }
        for (int number = first; number <= last; number++) {
            everyAnswerMet(number, document);
        }
        System.out.println(methods.size() + " sentences");
        Check.end();
    }

    /** An answer that is due in the running test. */
    static void due(String call, int got, int due) {
        MET.add(promise + " " + due);
        Check.due(promise, test + ": " + call, got, due);
    }

    static void same(String what, String got, String due) {
        Check.same("promise " + promise + ": " + test + ": " + what, got, due);
    }

    /** Methods without numbers and answers are tests; none may be forgotten by its name or lack of a quote. */
    private static List<Method> testsOf(Class<?> tests) {
        List<Method> methods = new ArrayList<>();
        for (Method method : tests.getDeclaredMethods()) {
            if (method.getParameterCount() == 0 && method.getReturnType() == void.class) {
                methods.add(method);
            }
        }
        methods.sort(Comparator.comparingInt(Edges::promiseOf).thenComparing(Method::getName));
        return methods;
    }

    private static int promiseOf(Method method) {
        Matcher name = TEST_NAME.matcher(method.getName());
        return name.matches() ? Integer.parseInt(name.group(1)) : 0;
    }

    private static void holdsInRange(boolean is) {
        same("the promise in the test's name", is ? "" : "is none of this class", "");
    }

    private static void quoted(Method method, String[] document) {
        Sentence sentence = method.getAnnotation(Sentence.class);
        String words = sentence == null ? "" : sentence.value();
        boolean stands = !words.isEmpty() && promise < document.length
            && (document[0].contains(words) || document[promise].contains(words));
        same("the quote \"" + words + "\"", stands ? "" : "is not in the document", "");
    }

    private static void runTest(Method method) {
        try {
            method.setAccessible(true);
            method.invoke(null);
        } catch (InvocationTargetException thrown) {
            same("the test", String.valueOf(thrown.getCause()), "");
        } catch (IllegalAccessException thrown) {
            same("the test", String.valueOf(thrown), "");
        }
    }

    /** Whatever a promise names as an answer was due in one of its own tests. */
    private static void everyAnswerMet(int number, String[] document) {
        promise = number;
        test = "all tests of the promise";
        Matcher names = ANSWER_NAME.matcher(document[number]);
        while (names.find()) {
            boolean met = MET.contains(number + " " + numberOf(names.group(), number));
            same("the answer " + names.group(), met ? "" : "is due in no test", "");
        }
        boolean any = MET.stream().anyMatch(answer -> answer.startsWith(number + " "));
        same("its answers", any ? "" : "are due in no test", "");
    }

    private static int numberOf(String answer, int ofPromise) {
        switch (answer) {
            case "NONE": return -6;
            case "UNKNOWN": return ofPromise == 26 ? -101 : -1;
            case "OUTSIDE": return ofPromise == 26 ? -102 : -2;
            case "STATE": return -3;
            case "FULL": return -4;
            default: return -5;
        }
    }
}
