/** Promises 17 to 20: days by turns. */
public final class DaysTest {
    private static final Due due = new Due("DaysTest");
    private static final int LOW = Integer.MIN_VALUE;
    private static final int HIGH = Integer.MAX_VALUE;

    public static void main(String[] args) {
        turns();
        lowestGoes();
        earned();
        lastDay();
        ahead();
        when();
        even();
        due.close();
    }

    private static void turns() {
        // Day 0: only 1; day 1: 0 and 2; day 2: nobody; day 3: 2; day 4: 2 alone, the last himself.
        PartSitters x = due.told("parts 3;plain 0 0 1;plain 0 0 0 5;plain 0 0 1 3 4 5;");
        due.is("day 0", x.go(1), 1);
        due.is("last", x.rule(5), 1);
        due.is("part 0", x.part(0, 2), 1);
        due.is("day 1", x.go(1), 1);
        due.is("the one behind the last", x.part(1, 2), 2);
        due.is("day 2, nobody", x.go(1), 0);
        due.is("last stays", x.rule(5), 2);
        due.is("part 2", x.part(2, 2), -4);
        due.is("day", x.rule(4), 3);
        due.is("days 3, 4: himself", x.go(2), 2);
        due.is("part 0", x.part(0, 2), 2);
        due.is("part 1", x.part(1, 2), 2);
        due.is("layers", x.part(1, 1), 2);
        due.is("day 5, round", x.go(1), 1);
        due.is("part 2", x.part(2, 2), 1);
        due.is("days 6, 7", x.go(2), 1);
        due.is("day 7 is day 0 of the week", x.part(1, 2), 1);
        due.is("none at all", new PartSitters().go(60), 0);
    }

    private static void lowestGoes() {
        PartSitters x = due.told("parts 2;plain 0 0 0 1 2 3 4 5 6;plain 0 0;plain 0 0;paint 0 1;paint 0 2;paint 0 1;paint 0 2;");
        due.is("go", x.go(1), 1);
        int[] layers = {2, 1, 2, 0};
        due.is("still 4", x.part(0, 1), 4);
        for (int k = 0; k < 4; k++) {
            due.is("layer " + k, x.layer(0, k), layers[k]);
        }
    }

    private static void earned() {
        PartSitters x = due.told("parts 3;plain 0 0;shadow 0 0;worth 0 9;worth 1 4;worth 2 5;paint 0 0;paint 1 1;paint 2 1;");
        x.go(1);
        due.is("plain", x.sitter(0, 4), 9);
        due.is("shadow, half of the sum, down", x.sitter(1, 4), 4);
        x.go(60);
        x.go(49);
        due.is("plain", x.sitter(0, 4), 990);
        x.go(1);
        due.is("plain", x.sitter(0, 4), 999);
        x.go(1);
        due.is("999 at most", x.sitter(0, 4), 999);
        due.is("shadow", x.sitter(1, 4), 448);
        due.is("ahead of 999", x.ahead(0, 10, 0), 0);
        due.is("ahead of the other", x.ahead(1, 10, 0), 40);
        // A twin and a stranger have all of it.
        x.alter(1, 0, 1);
        due.is("twin", x.ahead(1, 1, 0), 9);
        x.alter(1, 0, 3);
        due.is("stranger", x.ahead(1, 1, 0), 9);
    }

    private static void lastDay() {
        PartSitters x = due.told("plain 0 0 0;");
        for (int i = 0; i < 16; i++) {
            x.go(60);
        }
        due.is("day", x.rule(4), 960);
        String before = State.of(x);
        due.is("day 1000", x.go(40), -3);
        due.is("above", x.go(60), -3);
        due.is("BAD ahead of FULL", x.go(61), -1);
        due.is("nothing is changed", State.of(x).equals(before) ? 1 : 0, 1);
        due.is("day 999, by 966, 973, 980, 987, 994", x.go(39), 5);
        due.is("day", x.rule(4), 999);
        due.is("one more", x.go(1), -3);
        due.is("none more", x.go(0), 0);
        due.is("by days ahead there is no end", x.ahead(0, 60, 1), 15);
        for (int n : new int[] {-1, 61, LOW, HIGH}) {
            due.is("go BAD", x.go(n), -1);
        }
    }

    private static void ahead() {
        PartSitters x = due.told("parts 2;plain 0 0 0 1 2 3 4 5 6;plain 0 0 0 1 2 3 4 5 6;worth 1 3;");
        String before = State.of(x);
        int[][] more = {{0, 0}, {1, 0}, {2, 3}, {3, 6}};
        int[][] shown = {{0, 0}, {1, 0}, {1, 2}, {1, 2}};
        for (int n = 0; n < 4; n++) {
            for (int s = 0; s < 2; s++) {
                due.is("more of " + s + " behind " + n, x.ahead(s, n, 0), more[n][s]);
                due.is("shown of " + s + " behind " + n, x.ahead(s, n, 1), shown[n][s]);
            }
        }
        due.is("60 days", x.ahead(1, 60, 0), 177);
        int[][] bad = {{-1, 0, 0}, {2, 0, 0}, {0, -1, 0}, {0, 61, 0}, {0, 0, -1}, {0, 0, 2}, {LOW, 0, 0}, {HIGH, 0, 0},
            {0, LOW, 0}, {0, HIGH, 0}, {0, 0, LOW}, {0, 0, HIGH}};
        for (int[] b : bad) {
            due.is("ahead BAD", x.ahead(b[0], b[1], b[2]), -1);
        }
        due.is("nothing is changed", State.of(x).equals(before) ? 1 : 0, 1);
    }

    private static void when() {
        PartSitters x = due.told("parts 6;plain 0 0 0;plain 0 0 3;plain 0 0;paint 5 2;");
        String before = State.of(x);
        due.is("now", x.when(5, 2), 0);
        due.is("behind one", x.when(0, 0), 1);
        due.is("day 3", x.when(3, 1), 4);
        due.is("day 35", x.when(5, 0), 36);
        due.is("day 59", x.when(5, 1), 60 - 54 + 12);
        due.is("never", x.when(0, 2), -4);
        due.is("nothing is changed", State.of(x).equals(before) ? 1 : 0, 1);
        int[][] bad = {{-1, 0}, {6, 0}, {0, -1}, {0, 3}, {LOW, 0}, {HIGH, 0}, {0, LOW}, {0, HIGH}};
        for (int[] b : bad) {
            due.is("when BAD", x.when(b[0], b[1]), -1);
        }
        due.is("nobody", new PartSitters().when(0, 0), -1);
        theSixtiethDay();
    }

    /** A first showing that lies just within 60 days, and one just behind them. */
    private static void theSixtiethDay() {
        // Five take turns once a week: the 9th turn is 3's, on day 59 to part 5, on day 60 to part 0.
        PartSitters x = due.told("parts 6;plain 0 0 3;plain 0 0 3;plain 0 0 3;plain 0 0 3;plain 0 0 3;");
        due.is("behind 60", x.when(5, 3), 60);
        x = due.told("parts 6;plain 0 0 4;plain 0 0 4;plain 0 0 4;plain 0 0 4;plain 0 0 4;");
        due.is("behind 61", x.when(0, 3), -4);
        x.go(1);
        due.is("a day later", x.when(0, 3), 60);
    }

    private static void even() {
        due.is("nobody", new PartSitters().even(), -4);
        PartSitters x = due.told("plain 0 0;");
        due.is("one alone", x.even(), 1);
        x = due.told("plain 0 0;plain 0 0;");
        due.is("nothing each", x.even(), 1);
        x = due.told("plain 0 0;plain 0 0;paint 0 0;");
        due.is("never", x.even(), -4);
        // 1 and 0, then 1 and 2.
        x = due.told("parts 2;plain 0 0 0;plain 0 0 1;worth 1 2;");
        String before = State.of(x);
        due.is("alike behind two", x.even(), 2);
        due.is("nothing is changed", State.of(x).equals(before) ? 1 : 0, 1);
        // What was earned before does not count: 6 days of 1 and 2, then 3 and 0, 2 and 1 thrice.
        x.go(1);
        due.is("from here on", x.even(), 10);
        // Sixty days are the last that count.
        due.is("behind 60", due.told("parts 5;plain 0 0 2 6;plain 0 0 0 5;worth 1 7;").even(), 60);
        due.is("behind 61", due.told("parts 6;plain 0 0 6;plain 0 0 3;worth 0 9;paint 1 1;").even(), -4);
        // 999 does not stop it: what is had in these days counts.
        x = due.told("parts 2;plain 0 0;plain 0 0;worth 0 9;worth 1 9;paint 0 0;paint 1 0;");
        for (int i = 0; i < 2; i++) {
            x.go(60);
        }
        due.is("at 999", x.sitter(0, 4), 999);
        due.is("the other", x.sitter(1, 4), 0);
        due.is("had is not alike", x.even(), -4);
        x.scrape(0);
        x.paint(0, 1);
        due.is("had is alike", x.even(), 1);
    }
}
