/** Promises 30 to 33: who sat for what. */
public final class SeenTest {
    private static final Due due = new Due("SeenTest");
    private static final int LOW = Integer.MIN_VALUE;
    private static final int HIGH = Integer.MAX_VALUE;

    public static void main(String[] args) {
        see();
        forget();
        fits();
        ask();
        seenAndOtherCalls();
        due.close();
    }

    private static void see() {
        PartSitters x = due.told("parts 3;plain 0 0;");
        for (int n = 1; n <= 6; n++) {
            due.is("see " + n, x.see(n % 2, 2, n % 3 == 0), n);
        }
        due.is("the 7th", x.see(0, 1, true), -3);
        int[][] bad = {{-1, 0}, {3, 0}, {0, -1}, {0, 3}, {1, 1}, {LOW, 0}, {HIGH, 0}, {0, LOW}, {0, HIGH}};
        for (int[] b : bad) {
            due.is("BAD ahead of FULL", x.see(b[0], b[1], true), -1);
        }
        due.is("six", x.count(0), 6);
        x.forget(0);
        for (int[] b : bad) {
            due.is("see BAD", x.see(b[0], b[1], false), -1);
        }
        due.is("none", x.count(0), 0);
    }

    private static void forget() {
        PartSitters x = due.told("parts 3;plain 0 0;plain 0 0;");
        x.see(0, 1, true);
        x.see(1, 2, false);
        x.see(1, 2, true);
        due.is("at odds", x.fits(0), 0);
        for (int n : new int[] {-1, 4, LOW, HIGH}) {
            due.is("forget BAD", x.forget(n), -1);
        }
        due.is("forget none", x.forget(3), 3);
        due.is("forget the last", x.forget(2), 3);
        due.is("two are left", x.count(0), 2);
        due.is("the first two hold", x.fits(1), 1);
        due.is("forget all", x.forget(0), 2);
        due.is("all again", x.fits(0), 8);
    }

    private static void fits() {
        PartSitters x = due.told("parts 3;plain 0 0;plain 1 0;plain 3 0;bond 0 2;");
        due.is("what FITS", x.fits(0), 15);
        due.is("the first", x.fits(1), 0);
        due.is("see", x.see(2, 0, false), 1);
        due.is("unlike", x.fits(0), 6);
        due.is("the first", x.fits(1), 1);
        due.is("see", x.see(0, 1, true), 2);
        due.is("two left", x.fits(0), 2);
        due.is("the first", x.fits(1), 1);
        due.is("see", x.see(1, 2, true), 3);
        due.is("none", x.fits(0), 0);
        due.is("none", x.fits(1), -4);
        for (int w : new int[] {-1, 2, LOW, HIGH}) {
            due.is("fits BAD", x.fits(w), -1);
        }
    }

    private static void ask() {
        // 3 parts by 2: each pair halves the 8; the least pair is 0 and 1.
        PartSitters x = due.told("parts 3;plain 0 0;plain 0 0;");
        due.is("the least", x.ask(0), 1);
        due.is("four left", x.ask(1), 4);
        x.see(0, 1, true);
        due.is("not the known pair", x.ask(0), 2);
        due.is("two left", x.ask(1), 2);
        x.see(2, 1, true);
        due.is("nothing to ask", x.ask(0), -4);
        due.is("nothing to ask", x.ask(1), -4);
        // One picture alone is left, or none.
        due.is("one", due.told("plain 0 0;").ask(0), -4);
        x.see(0, 2, false);
        due.is("none", x.ask(0), -4);
        // By three sitters: alike in a third; the worst is two thirds.
        x = due.told("parts 2;plain 0 0;plain 0 0;plain 0 0;");
        due.is("the only pair", x.ask(0), 1);
        due.is("six of nine", x.ask(1), 6);
        // The pair 1, 2 is bound: 5 of 9 are alike there 3 times, so 3 are left at the worst of 0 to 2 by 4.
        x = due.told("parts 3;plain 0 0;stranger 5 0;bond 0 1;");
        due.is("0 and 2", x.ask(0), 2);
        due.is("two of four", x.ask(1), 2);
        String before = State.of(x);
        for (int w : new int[] {-1, 2, LOW, HIGH}) {
            due.is("ask BAD", x.ask(w), -1);
        }
        due.is("nothing is changed", State.of(x).equals(before) ? 1 : 0, 1);
        due.is("BAD ahead of NONE", new PartSitters().ask(2), -1);
    }

    /** What is SEEN counts for fits() and ask() alone, and no image holds it. */
    private static void seenAndOtherCalls() {
        PartSitters x = due.told("parts 2;plain 0 0;plain 0 1;");
        x.keep(0);
        x.see(0, 1, false);
        due.is("fits", x.fits(0), 2);
        due.is("many", x.many(), 4);
        due.is("mend", x.mend(1), 0);
        due.is("cheap", x.cheap(6, 1), 0);
        due.is("back", x.back(0), 0);
        due.is("seen still", x.count(0), 1);
        due.is("fits still", x.fits(1), 1);
    }
}
