import java.lang.reflect.InvocationTargetException;
import java.lang.reflect.Method;
import java.nio.file.Path;
import java.util.ArrayList;
import java.util.Arrays;
import java.util.Comparator;
import java.util.List;
import java.util.function.Consumer;
import java.util.function.Supplier;

/** Runs tests of which each stands for one sentence of the document, and tells the wrong ones with their sentence. */
class Edges extends Town {
    private static final int SHOWN_MOST = 12;
    private static final List<String> wrong = new ArrayList<>();

    static void due(String what, int got, int want) {
        if (got != want) {
            wrong.add(what + " answered " + got + ", due is " + want);
        }
    }

    static void due(String what, boolean got, boolean want) {
        due(what, got ? 1 : 0, want ? 1 : 0);
    }

    /** The call leaves all as it was, the tape too. */
    static void unchanged(String what, Supplier<DyeVats> make, Consumer<DyeVats> call) {
        if (!seen(make, call).equals(seen(make, x -> { }))) {
            wrong.add(what + " changed something");
        }
    }

    /** The call empties the tape, as check(0) does, and leaves all else as it was. */
    static void onlyEmpties(String what, Supplier<DyeVats> make, Consumer<DyeVats> call) {
        if (!seen(make, call).equals(seen(make, x -> x.check(0)))) {
            wrong.add(what + " changed more than the tape, or has not emptied it");
        }
    }

    static boolean run(Path document, Class<?>... classes) throws Exception {
        Sentences sentences = new Sentences(document);
        int passed = 0;
        int failed = 0;
        for (Method test : testsOf(classes)) {
            Says says = test.getAnnotation(Says.class);
            sentences.mark(says.promise(), says.words());
            if (!sentences.has(says.promise(), says.words())) {
                System.out.println("note: the document has no longer the words of " + test.getName() + ": " + says.words());
            }
            if (keeps(test)) {
                passed++;
            } else {
                failed++;
                System.out.println("promise " + says.promise() + ", \"" + says.words() + "\", " + test.getName() + ":");
                wrong.stream().limit(SHOWN_MOST).forEach(line -> System.out.println("    " + line));
            }
        }
        for (String rest : sentences.untested()) {
            System.out.println("note: no test of edges stands for " + rest);
        }
        System.out.println(passed + " passed, " + failed + " failed");
        return failed == 0 && passed > 0;
    }

    private static List<Method> testsOf(Class<?>... classes) {
        List<Method> tests = new ArrayList<>();
        for (Class<?> each : classes) {
            Method[] methods = each.getDeclaredMethods();
            Arrays.sort(methods, Comparator.comparing(Method::getName));
            for (Method m : methods) {
                if (m.isAnnotationPresent(Says.class)) {
                    tests.add(m);
                }
            }
        }
        return tests;
    }

    // A call that throws breaks the promise, too, and must not hide the tests behind it.
    private static boolean keeps(Method test) throws IllegalAccessException {
        wrong.clear();
        try {
            test.invoke(null);
        } catch (InvocationTargetException thrown) {
            wrong.add("a call threw " + thrown.getCause());
        }
        return wrong.isEmpty();
    }
}
