import java.util.HashSet;
import java.util.Set;

/** Tests of single sentences: each runs by itself, and a failing one is told by its words. */
final class Sentences {
    private static final Set<String> ALL = new HashSet<>();
    private static String now = "";
    private static int wrong = 0;

    private Sentences() {
    }

    /** What shows whether a sentence holds. */
    interface Test {
        void go();
    }

    static void sentence(String words, Test test) {
        now = words;
        int before = wrong;
        same("this sentence has a test already", !ALL.add(words), false);
        try {
            test.go();
        } catch (RuntimeException e) {
            wrong++;
            System.out.println("  " + e);
        }
        if (wrong != before) {
            System.out.println("BROKEN: " + now);
        }
    }

    static void same(String what, Object got, Object want) {
        if (!String.valueOf(got).equals(String.valueOf(want))) {
            wrong++;
            System.out.println("  " + what + ": " + got + ", due is " + want);
        }
    }

    static void end() {
        System.out.println(wrong == 0 ? "all " + ALL.size() + " sentences hold"
                : wrong + " answers are not as due");
        if (wrong != 0) {
            System.exit(1);
        }
    }
}
