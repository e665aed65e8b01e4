/** Promises 6 to 16: what there is, and what is changed, call by call. */
public final class StreetTest {
    private static final Due due = new Due("StreetTest");
    private static final int LOW = Integer.MIN_VALUE;
    private static final int HIGH = Integer.MAX_VALUE;

    public static void main(String[] args) {
        rule();
        parts();
        sitters();
        bonds();
        forgers();
        paint();
        scrape();
        alter();
        worth();
        like();
        due.close();
    }

    private static void rule() {
        PartSitters x = due.told("parts 3;plain 1 2 0 1;twin 2 3 4;bond 0 1;bond 0 2;forger 1;paint 1 0;");
        int[] now = {3, 2, 2, 1, 0, -4, 5};
        for (int what = 0; what < 7; what++) {
            due.is("rule " + what, x.rule(what), now[what]);
        }
        x.go(5);
        int[] then = {3, 2, 2, 1, 5, 1, 4};
        for (int what = 0; what < 7; what++) {
            due.is("rule " + what + " behind 5 days", x.rule(what), then[what]);
        }
        due.is("rule(-1)", x.rule(-1), -1);
        due.is("rule(7)", x.rule(7), -1);
        due.is("rule(LOW)", x.rule(LOW), -1);
        due.is("rule(HIGH)", x.rule(HIGH), -1);
    }

    private static void parts() {
        PartSitters x = due.told("parts 2;plain 0 0;twin 0 0;worth 1 7;paint 1 0;paint 1 1;");
        due.is("worth", x.part(1, 0), 7);
        due.is("worth as at first", x.part(0, 0), 1);
        due.is("layers", x.part(1, 1), 2);
        due.is("top", x.part(1, 2), 1);
        due.is("bare", x.part(0, 2), -4);
        due.is("lowest", x.layer(1, 0), 0);
        due.is("highest", x.layer(1, 1), 1);
        int[][] bad = {{-1, 0}, {2, 0}, {0, -1}, {0, 3}, {LOW, 0}, {HIGH, 0}, {0, LOW}, {0, HIGH}};
        for (int[] b : bad) {
            due.is("part BAD", x.part(b[0], b[1]), -1);
        }
        int[][] none = {{-1, 0}, {2, 0}, {0, 0}, {1, 2}, {1, -1}, {LOW, 0}, {HIGH, 0}, {1, LOW}, {1, HIGH}};
        for (int[] b : none) {
            due.is("layer BAD", x.layer(b[0], b[1]), -1);
        }
    }

    private static void sitters() {
        PartSitters x = due.told("parts 3;shadow 4 9 0 6;paint 0 0;paint 2 0;worth 2 4;");
        x.go(1);
        int[] now = {2, 4, 9, 65, 2, 5};
        for (int what = 0; what < 6; what++) {
            due.is("sitter " + what, x.sitter(0, what), now[what]);
        }
        int[][] bad = {{-1, 0}, {1, 0}, {0, -1}, {0, 6}, {LOW, 0}, {HIGH, 0}, {0, LOW}, {0, HIGH}};
        for (int[] b : bad) {
            due.is("sitter BAD", x.sitter(b[0], b[1]), -1);
        }
    }

    private static void bonds() {
        PartSitters x = due.told("plain 0 0;plain 1 0;plain 3 0;stranger 0 0;bond 3 1;");
        due.is("bond 0", x.bond(0, 0), 3);
        due.is("bond 1", x.bond(0, 1), 1);
        due.is("both bare", x.bond(0, 2), 0);
        x.paint(3, 0);
        due.is("one bare", x.bond(0, 2), 0);
        x.paint(1, 1);
        due.is("like", x.bond(0, 2), 1);
        due.is("count", x.count(5), 1);
        x.paint(1, 2);
        due.is("not like", x.bond(0, 2), 0);
        due.is("count", x.count(5), 0);
        x.paint(1, 3);
        x.paint(3, 3);
        due.is("one stranger on both", x.bond(0, 2), 1);
        int[][] bad = {{-1, 0}, {1, 0}, {0, -1}, {0, 3}, {LOW, 0}, {HIGH, 0}, {0, LOW}, {0, HIGH}};
        for (int[] b : bad) {
            due.is("bond BAD", x.bond(b[0], b[1]), -1);
        }
    }

    private static void forgers() {
        PartSitters x = due.told("plain 0 0;plain 0 0;plain 0 0;forger 2 0;forger;forger 1;");
        due.is("forger 0", x.forger(0), 5);
        due.is("forger 1", x.forger(1), 0);
        due.is("forger 2", x.forger(2), 2);
        for (int f : new int[] {-1, 3, LOW, HIGH}) {
            due.is("forger BAD", x.forger(f), -1);
        }
        due.is("no forger", new PartSitters().forger(0), -1);
    }

    private static void paint() {
        PartSitters x = due.told("parts 2;plain 0 0;plain 0 0 1;paint 1 1;");
        for (int n = 1; n <= 4; n++) {
            due.is("paint " + n, x.paint(0, n % 2), n);
        }
        String before = State.of(x);
        due.is("full", x.paint(0, 1), -3);
        int[][] bad = {{-1, 0}, {2, 0}, {0, -1}, {0, 2}, {LOW, 0}, {HIGH, 0}, {1, LOW}, {1, HIGH}};
        for (int[] b : bad) {
            due.is("paint BAD", x.paint(b[0], b[1]), -1);
        }
        due.is("nothing is changed", State.of(x).equals(before) ? 1 : 0, 1);
        for (int k = 0; k < 4; k++) {
            due.is("layer " + k, x.layer(0, k), (k + 1) % 2);
        }
        due.is("layers in all", x.count(4), 5);
        due.is("nobody", new PartSitters().paint(0, 0), -1);
    }

    private static void scrape() {
        PartSitters x = due.told("parts 2;plain 0 0;plain 0 0;paint 1 1;paint 1 0;");
        due.is("scrape", x.scrape(1), 0);
        due.is("shows", x.part(1, 2), 1);
        due.is("scrape", x.scrape(1), 1);
        String before = State.of(x);
        due.is("bare", x.scrape(1), -2);
        due.is("bare", x.scrape(0), -2);
        for (int p : new int[] {-1, 2, LOW, HIGH}) {
            due.is("scrape BAD", x.scrape(p), -1);
        }
        due.is("nothing is changed", State.of(x).equals(before) ? 1 : 0, 1);
        due.is("paint", x.paint(1, 0), 1);
    }

    private static void alter() {
        PartSitters x = due.told("plain 2 3 0 2;twin 1 1;");
        int[] was = {0, 2, 3, 5};
        int[] most = {3, 5, 9, 127};
        for (int what = 0; what < 4; what++) {
            due.is("what it was", x.alter(0, what, most[what]), was[what]);
            due.is("it becomes", x.sitter(0, what), most[what]);
            due.is("too much", x.alter(0, what, most[what] + 1), -1);
            due.is("below 0", x.alter(0, what, -1), -1);
            due.is("LOW", x.alter(0, what, LOW), -1);
            due.is("HIGH", x.alter(0, what, HIGH), -1);
            due.is("it stays", x.sitter(0, what), most[what]);
            due.is("what it was", x.alter(0, what, 0), most[what]);
        }
        String before = State.of(x);
        int[][] bad = {{-1, 0}, {2, 0}, {0, -1}, {0, 4}, {0, 5}, {LOW, 0}, {HIGH, 0}, {0, LOW}, {0, HIGH}};
        for (int[] b : bad) {
            due.is("alter BAD", x.alter(b[0], b[1], 0), -1);
        }
        due.is("nothing is changed", State.of(x).equals(before) ? 1 : 0, 1);
        due.is("the other one", x.sitter(1, 0), 1);
    }

    private static void worth() {
        PartSitters x = due.told("parts 3;worth 2 5;");
        due.is("worth", x.worth(2, 9), 5);
        due.is("worth", x.worth(2, 0), 9);
        due.is("worth", x.worth(0, 4), 1);
        String before = State.of(x);
        int[][] bad = {{-1, 0}, {3, 0}, {0, -1}, {0, 10}, {LOW, 0}, {HIGH, 0}, {0, LOW}, {0, HIGH}};
        for (int[] b : bad) {
            due.is("worth BAD", x.worth(b[0], b[1]), -1);
        }
        due.is("nothing is changed", State.of(x).equals(before) ? 1 : 0, 1);
        due.is("all worths", x.count(6), 5);
        PartSitters y = due.told("parts 6;plain 0 0;plain 0 0;plain 0 0;plain 0 0;plain 3 0;");
        due.is("the 6th part", y.worth(5, 8), 1);
        due.is("the 6th part", y.part(5, 0), 8);
        due.is("the 5th sitter", y.alter(4, 1, 2), 3);
        due.is("the 5th sitter", y.sitter(4, 1), 2);
    }

    private static void like() {
        // By kind of s, kind of t, how far their miens are apart.
        int[][][] due4 = {
            {{1, 1, 0, 0}, {1, 1, 0, 0}, {1, 0, 0, 0}, {0, 0, 0, 0}},
            {{1, 1, 0, 0}, {1, 1, 1, 1}, {1, 0, 0, 0}, {0, 0, 0, 0}},
            {{1, 0, 0, 0}, {1, 0, 0, 0}, {1, 0, 0, 0}, {0, 0, 0, 0}},
            {{0, 0, 0, 0}, {0, 0, 0, 0}, {0, 0, 0, 0}, {0, 0, 0, 0}}};
        PartSitters x = due.told("plain 3 0;plain 3 0;");
        for (int kind = 0; kind < 4; kind++) {
            for (int other = 0; other < 4; other++) {
                for (int mien = 0; mien <= 5; mien++) {
                    x.alter(0, 0, kind);
                    x.alter(1, 0, other);
                    x.alter(1, 1, mien);
                    due.is("like " + kind + " " + other + " " + mien, x.like(0, 1), due4[kind][other][Math.abs(mien - 3)]);
                    due.is("the other way", x.like(1, 0), x.like(0, 1));
                    due.is("himself", x.like(0, 0), 1);
                }
            }
        }
        int[][] bad = {{-1, 0}, {2, 0}, {0, -1}, {0, 2}, {LOW, LOW}, {HIGH, 0}, {0, HIGH}, {2, 2}, {-1, -1}};
        for (int[] b : bad) {
            due.is("like BAD", x.like(b[0], b[1]), -1);
        }
    }
}
