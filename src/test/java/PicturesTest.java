/** Promises 21 to 29 and 34: pictures that fit, shares, forgers, odds, drifts. */
public final class PicturesTest {
    private static final Due due = new Due("PicturesTest");
    private static final int LOW = Integer.MIN_VALUE;
    private static final int HIGH = Integer.MAX_VALUE;

    public static void main(String[] args) {
        many();
        mend();
        cheap();
        next();
        value();
        share();
        looks();
        odds();
        drift();
        wrongNumbers();
        nobody();
        due.close();
    }

    private static void many() {
        due.is("all", due.told("parts 6;plain 0 0;plain 0 0;plain 0 0;plain 0 0;plain 0 0;").many(), 15625);
        due.is("one sitter", due.told("parts 6;stranger 0 0;bond 0 1;").many(), 1);
        due.is("strangers", due.told("parts 3;stranger 0 0;stranger 0 0;bond 0 1;").many(), 4);
        due.is("a chain", due.told("parts 3;plain 0 0;plain 1 0;plain 2 0;bond 0 1;bond 1 2;").many(), 17);
        due.is("one bond told twice", due.told("parts 2;plain 0 0;plain 5 0;bond 0 1;bond 1 0;").many(), 2);
    }

    private static void mend() {
        PartSitters x = due.told("parts 3;stranger 0 0;stranger 0 0;bond 0 1;bond 1 2;paint 0 0;paint 1 1;paint 2 1;");
        String before = State.of(x);
        due.is("one", x.mend(0), 1);
        due.is("all by 1", x.mend(1), 7);
        x.scrape(1);
        due.is("of two the first", x.mend(0), 2);
        due.is("all by 0", x.mend(1), 0);
        x.paint(1, 1);
        due.is("nothing is changed", State.of(x).equals(before) ? 1 : 0, 1);
        x.paint(0, 1);
        due.is("it fits", x.mend(0), 0);
        due.is("it fits", x.mend(1), 7);
        due.is("all bare", due.told("plain 0 0;").mend(0), 4);
        due.is("all bare", due.told("plain 0 0;").mend(1), 0);
    }

    private static void cheap() {
        PartSitters x = due.told("parts 3;plain 0 5;plain 1 2;plain 2 3;worth 0 9;worth 1 0;worth 2 4;bond 0 1;bond 1 2;");
        String before = State.of(x);
        // 9 by 1 (18), 0 by anybody near him, 4 by 1 (8).
        due.is("cost", x.cheap(6, 0), 26);
        due.is("the first", x.cheap(6, 1), 9 + 0 + 1);
        due.is("cost, two at most", x.cheap(2, 0), 26);
        due.is("the first, two at most", x.cheap(2, 1), 10);
        // Each but one: 1 must stand between 0 and 2: 0 1 2 costs 45 + 0 + 12, 2 1 0 costs 27 + 0 + 20.
        due.is("cost, one each", x.cheap(1, 0), 47);
        due.is("the first, one each", x.cheap(1, 1), 18 + 3 + 0);
        due.is("nothing is changed", State.of(x).equals(before) ? 1 : 0, 1);
        PartSitters y = due.told("plain 0 0;plain 0 0;");
        due.is("too many parts", y.cheap(1, 0), -4);
        due.is("too many parts", y.cheap(1, 1), -4);
        due.is("two each", y.cheap(2, 0), 0);
        due.is("two each", y.cheap(2, 1), 3);
        due.is("costs nothing", y.cheap(6, 1), 0);
        due.is("bonds forbid", due.told("parts 2;stranger 0 0;stranger 0 0;bond 0 1;").cheap(1, 0), -4);
        due.is("BAD ahead of NONE", y.cheap(0, 0), -1);
    }

    private static void next() {
        PartSitters x = due.told("parts 3;plain 0 0;stranger 0 0;bond 0 1;bond 1 2;paint 0 0;paint 2 0;");
        String before = State.of(x);
        due.is("the middle", x.next(0), 10);
        due.is("two then", x.next(1), 2);
        due.is("nothing is changed", State.of(x).equals(before) ? 1 : 0, 1);
        x.paint(1, 0);
        due.is("the first that keeps it", x.next(0), 0);
        due.is("two still", x.next(1), 2);
        x = due.told("parts 2;plain 0 0;plain 3 0;bond 0 1;paint 0 1;paint 1 1;paint 0 1;paint 0 1;paint 0 1;");
        due.is("of four layers, too", x.next(0), 1);
        due.is("one", x.next(1), 1);
        x = due.told("parts 2;plain 0 0;plain 0 0;");
        due.is("no bonds", x.next(0), 0);
        due.is("no bonds", x.next(1), 0);
        x = due.told("parts 2;plain 0 0;plain 5 0;bond 0 1;paint 1 1;");
        due.is("the second sitter", x.next(0), 1);
        x = due.told("parts 4;plain 0 0;plain 5 0;bond 3 2;paint 2 1;");
        due.is("the last part", x.next(0), 31);
    }

    private static void value() {
        PartSitters x = due.told("parts 4;plain 0 0;plain 1 0;stranger 1 0;worth 0 7;worth 1 3;worth 2 5;worth 3 9;"
                + "bond 0 1;bond 1 2;bond 3 0;paint 0 0;paint 1 1;paint 2 2;paint 3 0;");
        int[] due8 = {0, 23, 3, 29, 5, 28, 8, 34};
        for (int some = 0; some < 8; some++) {
            due.is("value " + some, x.value(some), due8[some]);
        }
        for (int some : new int[] {-1, 8, 9, LOW, HIGH}) {
            due.is("value BAD", x.value(some), -1);
        }
        due.is("two bonds of the same", due.told("parts 2;plain 0 0;bond 0 1;bond 1 0;worth 1 4;paint 0 0;paint 1 0;").value(1), 7);
    }

    private static void share() {
        PartSitters x = due.told("parts 4;plain 0 0;plain 1 0;stranger 1 0;worth 0 7;worth 1 3;worth 2 5;worth 3 9;"
                + "bond 0 1;bond 1 2;bond 3 0;paint 0 0;paint 1 1;paint 2 2;paint 3 0;");
        long[][] shares = {{49, 2}, {9, 2}, {5, 1}};
        for (int s = 0; s < 3; s++) {
            due.is("share " + s, x.share(s, 0), shares[s][0]);
            due.is("share " + s, x.share(s, 1), shares[s][1]);
        }
        PartSitters y = due.told("plain 0 0;");
        due.is("0 by 1", y.share(0, 0), 0);
        due.is("0 by 1", y.share(0, 1), 1);
    }

    private static void looks() {
        PartSitters x = due.told("parts 4;plain 0 0;plain 0 0;plain 0 0;forger 0 1;forger 2 1;forger 0;paint 0 1;paint 1 0;paint 2 2;paint 3 1;");
        due.is("two", x.looks(0), 2);
        due.is("parts 0 and 1", x.looks(1), 3);
        x.scrape(0);
        due.is("two", x.looks(0), 2);
        due.is("parts 1 and 2", x.looks(1), 6);
        x.scrape(2);
        due.is("parts 1 and 3", x.looks(1), 10);
        x.scrape(1);
        due.is("none", x.looks(0), -4);
        due.is("none", x.looks(1), -4);
        PartSitters y = due.told("plain 0 0;paint 0 0;");
        due.is("no forger", y.looks(0), 0);
        due.is("no forger", y.looks(1), 0);
        due.is("who knew all", due.told("plain 0 0;paint 0 0;forger;").looks(0), -4);
        due.is("one for all", due.told("plain 0 0;plain 0 0;forger 0 1;forger 1;paint 0 0;paint 3 1;").looks(1), 8);
        // One part above is fewer than two below.
        due.is("fewest ahead of least", due.told("plain 0 0;plain 0 0;plain 0 0;forger 0 2;forger 1 2;paint 0 0;paint 1 1;paint 3 2;").looks(1), 8);
    }

    private static void odds() {
        PartSitters x = due.told("parts 4;plain 0 0;plain 1 0;plain 0 0;worth 0 4;worth 3 8;bond 0 3;paint 0 0;paint 1 1;paint 3 1;");
        long[][] alive = {{1, 1}, {81, 100}, {16, 25}, {49, 100}, {9, 25}, {1, 4}, {4, 25}, {9, 100}, {1, 25}, {1, 100}, {0, 1}};
        // 13 by one each, 4 more if both live.
        long[][] mean = {{17, 1}, {747, 50}, {324, 25}, {553, 50}, {231, 25}, {15, 2}, {146, 25}, {213, 50}, {69, 25}, {67, 50}, {0, 1}};
        for (int v = 0; v <= 10; v++) {
            for (int what = 0; what < 2; what++) {
                due.is("alive " + v + " " + what, x.alive(v, what), alive[v][what]);
                due.is("mean " + v + " " + what, x.mean(v, what), mean[v][what]);
            }
        }
        PartSitters y = due.told("parts 6;plain 0 0;plain 0 0;plain 0 0;plain 0 0;plain 0 0;paint 0 0;paint 1 1;paint 2 2;paint 3 3;paint 4 4;");
        due.is("five", y.alive(1, 0), 59049);
        due.is("five", y.alive(1, 1), 100000);
        due.is("none shows", due.told("plain 0 0;").alive(10, 0), 1);
        due.is("none shows", due.told("plain 0 0;").alive(10, 1), 1);
        due.is("none shows", due.told("plain 0 0;").mean(3, 1), 1);
    }

    private static void drift() {
        // seed 1: 1103527590, bits 16 to 30 of it 16838; then 2524885223 (5758); 662824084, 3295386010.
        PartSitters x = due.told("parts 4;plain 0 0;plain 3 0;plain 4 0;worth 0 2;worth 1 3;worth 2 5;worth 3 7;bond 0 2;");
        String before = State.of(x);
        due.is("16838 is part 2, 5758 is sitter 1", x.drift(1, 1, 0), 5);
        due.is("no bond yet", x.drift(1, 1, 1), 0);
        x.paint(0, 2);
        due.is("a bond then", x.drift(1, 1, 1), 1);
        due.is("value", x.drift(1, 1, 0), 2 + 5 + 2);
        x.scrape(0);
        // 662824084: 10113 is part 1; 3295386010: 17515 is sitter 1.
        due.is("twice", x.drift(1, 2, 0), 8);
        due.is("nothing is changed", State.of(x).equals(before) ? 1 : 0, 1);
        for (int i = 0; i < 4; i++) {
            x.paint(2, 0);
        }
        due.is("the lowest goes first", x.drift(1, 1, 0), 5);
        due.is("four still", x.part(2, 1), 4);
        due.is("a low seed", x.drift(LOW, 60, 0), new Plain(x, new java.util.ArrayList<>()).drift(LOW, 60, 0));
    }

    private static void wrongNumbers() {
        PartSitters x = due.told("plain 0 0;plain 1 0;bond 0 1;forger 0;paint 0 0;paint 1 1;");
        String before = State.of(x);
        for (int w : new int[] {-1, 2, LOW, HIGH}) {
            due.is("mend BAD", x.mend(w), -1);
            due.is("cheap BAD", x.cheap(3, w), -1);
            due.is("next BAD", x.next(w), -1);
            due.is("share BAD", x.share(0, w), -1);
            due.is("share BAD", x.share(w, 0), -1);
            due.is("looks BAD", x.looks(w), -1);
            due.is("alive BAD", x.alive(5, w), -1);
            due.is("mean BAD", x.mean(5, w), -1);
            due.is("drift BAD", x.drift(1, 1, w), -1);
        }
        for (int w : new int[] {0, 7, -1, LOW, HIGH}) {
            due.is("cheap BAD", x.cheap(w, 0), -1);
        }
        for (int w : new int[] {-1, 11, LOW, HIGH}) {
            due.is("alive BAD", x.alive(w, 0), -1);
            due.is("mean BAD", x.mean(w, 0), -1);
        }
        for (int w : new int[] {0, -1, 61, LOW, HIGH}) {
            due.is("drift BAD", x.drift(1, w, 0), -1);
            due.is("drift BAD ahead of STATE", new PartSitters().drift(1, w, 0), -1);
        }
        due.is("nothing is changed", State.of(x).equals(before) ? 1 : 0, 1);
    }

    private static void nobody() {
        PartSitters x = new PartSitters();
        for (int what = 0; what < 2; what++) {
            due.is("mend", x.mend(what), -4);
            due.is("cheap", x.cheap(6, what), -4);
            due.is("next", x.next(what), -4);
            due.is("looks", x.looks(what), 0);
            due.is("share", x.share(0, what), -1);
            due.is("alive", x.alive(10, what), 1);
            due.is("mean", x.mean(10, what), what);
            due.is("drift", x.drift(0, 1, what), -2);
        }
        due.is("many", x.many(), 0);
        due.is("value", x.value(0), 0);
        due.is("value BAD", x.value(1), -1);
        due.is("next BAD ahead of NONE", x.next(2), -1);
    }
}
