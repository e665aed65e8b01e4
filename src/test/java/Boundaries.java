import java.util.ArrayList;
import java.util.List;

/**
 * Boundary cases, each a test of its own: the words of the document that name it, what is at the boundary, and
 * a run of calls with the answers that are due there. Each runs by itself, on objects of its own.
 */
final class Boundaries {
    /** Where the document says it, its words, which boundary, the run. */
    record Case(String where, String words, String what, String[] lines) {
    }

    private final String test;
    private final List<Case> cases = new ArrayList<>();

    Boundaries(String test) {
        this.test = test;
    }

    void of(String where, String words, String what, String... lines) {
        cases.add(new Case(where, words, what, lines));
    }

    List<Case> all() {
        return cases;
    }

    /** Runs each case; ends the program: with 1 if an answer was not due. */
    void run() {
        int asked = 0;
        int failed = 0;
        for (Case one : cases) {
            Run run = new Run();
            List<String> wrong = run.wrong();
            try {
                run.lines(one.lines());
            } catch (RuntimeException e) {
                wrong.add("threw " + e);
            }
            asked += run.asked();
            if (!wrong.isEmpty()) {
                failed++;
                System.out.println(test + ": " + one.where() + ", \"" + one.words() + "\": " + one.what());
                wrong.forEach(line -> System.out.println("    " + line));
            }
        }
        System.out.println(test + ": " + cases.size() + " boundary cases, " + asked + " answers, " + failed + " cases failed");
        System.exit(failed == 0 ? 0 : 1);
    }
}
