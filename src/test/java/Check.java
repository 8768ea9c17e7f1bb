import java.lang.reflect.InvocationTargetException;
import java.lang.reflect.Method;
import java.util.Arrays;
import java.util.Comparator;

/** Collects the answers that are not due; a test's main ends with end(). */
final class Check {
    /** What is no LAMP: just beside the ten, and far away. */
    static final int[] NO_LAMPS = beside(0, 9);

    private static int wrong = 0;
    private static int asked = 0;
    private static String sentence = "";

    private Check() {
    }

    /** Runs each test of a class that holds a sentence; a wrong answer is told with that sentence. */
    static void sentences(Class<?> test) throws IllegalAccessException {
        Method[] methods = test.getDeclaredMethods();
        Arrays.sort(methods, Comparator.comparing(Method::getName));
        for (Method method : methods) {
            Says says = method.getAnnotation(Says.class);
            if (says != null) {
                holdSentence(method, says);
            } else if (method.getParameterCount() == 0 && method.getReturnType() == void.class) {
                due(method.getName() + " names its sentence", false);
            }
        }
        sentence = "";
    }

    private static void holdSentence(Method method, Says says) throws IllegalAccessException {
        sentence = says.in() + " \"" + says.text() + "\" (" + method.getName() + "): ";
        int before = asked;
        method.setAccessible(true);
        try {
            method.invoke(null);
        } catch (InvocationTargetException e) {
            due("ended by " + e.getCause(), false);
        }
        due("it asks something", asked > before);
    }

    static void due(String what, int got, int want) {
        asked++;
        if (got != want) {
            wrong++;
            System.out.println(sentence + what + " answered " + got + ", due is " + want);
        }
    }

    static void due(String what, boolean holds) {
        due(what, holds ? 1 : 0, 1);
    }

    static void same(String what, String got, String want) {
        asked++;
        if (!got.equals(want)) {
            wrong++;
            System.out.println(sentence + what + ": not the same:\n" + got + "\ndue is\n" + want);
        }
    }

    /** Numbers that are not from least to most: just beside these, and as far away as an int can be. */
    static int[] beside(int least, int most) {
        return new int[] {least - 1, most + 1, Integer.MIN_VALUE, Integer.MAX_VALUE};
    }

    static void end() {
        System.out.println(wrong == 0 ? "all " + asked + " answers are as due" : wrong + " of " + asked + " are not as due");
        if (wrong != 0) {
            System.exit(1);
        }
    }
}
