/** Promises 35 to 41: images, sheets, what is counted. */
public final class SheetsTest {
    private static final Due due = new Due("SheetsTest");
    private static final int LOW = Integer.MIN_VALUE;
    private static final int HIGH = Integer.MAX_VALUE;

    public static void main(String[] args) {
        images();
        sheet();
        lay();
        read();
        refusedReads();
        lanes();
        count();
        due.close();
    }

    private static void images() {
        PartSitters x = due.told("parts 3;plain 1 2 0 1 2 3;shadow 2 3 4 5;bond 0 1;forger 1;worth 1 6;paint 1 0;");
        due.is("none yet", x.back(0), -2);
        due.is("keep", x.keep(0), 0);
        due.is("one", x.count(1), 1);
        due.is("keep the other", x.keep(1), 0);
        due.is("two", x.count(1), 2);
        String first = State.of(x);
        x.go(4);
        due.is("keep the other again", x.keep(1), 1);
        x.worth(0, 9);
        x.worth(1, 0);
        x.paint(1, 1);
        x.scrape(2);
        x.alter(0, 0, 3);
        x.alter(0, 1, 5);
        x.alter(1, 2, 9);
        x.alter(1, 3, 0);
        x.go(3);
        String third = State.of(x);
        due.is("back", x.back(0), 0);
        due.is("as it was", State.of(x).equals(first) ? 1 : 0, 1);
        due.is("worth", x.part(1, 0), 6);
        due.is("earned", x.sitter(0, 4), 0);
        due.is("last", x.rule(5), -4);
        due.is("back to day 4", x.back(1), 4);
        due.is("last", x.rule(5), 0);
        due.is("earned", x.sitter(0, 4) > 0 ? 1 : 0, 1);
        due.is("not as the third", State.of(x).equals(third) ? 1 : 0, 0);
        due.is("keep again", x.keep(0), 1);
        due.is("back", x.back(0), 4);
        // An image is a copy of its own.
        x.worth(2, 8);
        due.is("back", x.back(0), 4);
        due.is("worth", x.part(2, 0), 1);
        for (int k : new int[] {-1, 2, LOW, HIGH}) {
            due.is("keep BAD", x.keep(k), -1);
            due.is("back BAD", x.back(k), -1);
        }
        // THE TAPE, sheets, torn() and what is SEEN are in no image.
        x.feed('a');
        x.sheet(0, 1, 5);
        x.read(3, 0, 0, 1);
        x.back(1);
        due.is("tape", x.count(2), 1);
        due.is("sheet", x.count(3), 5);
        due.is("torn", x.torn(), 1);
    }

    private static void sheet() {
        PartSitters x = new PartSitters();
        due.is("sheet", x.sheet(0, 0, 0), 1);
        due.is("no cells", x.count(3), 0);
        due.is("index", x.lay(0, 0, 1), -12);
        due.is("sheet", x.sheet(0, 2, 40), 1);
        due.is("lay", x.lay(0, 39, 1), 1);
        due.is("index", x.lay(0, 40, 1), -12);
        due.is("size", x.sheet(0, 0, -1), -14);
        due.is("size", x.sheet(3, 2, LOW), -14);
        due.is("too many", x.sheet(0, 0, 41), -1);
        due.is("too many", x.sheet(0, 0, HIGH), -1);
        due.is("it stays", x.count(3), 40);
        int[][] bad = {{-1, 0, 1}, {4, 0, 1}, {0, -1, 1}, {0, 3, 1}, {4, 0, -1}, {0, 3, -1}, {LOW, 0, 1}, {HIGH, 0, 1}, {0, LOW, 1}, {0, HIGH, 1}};
        for (int[] b : bad) {
            due.is("sheet BAD", x.sheet(b[0], b[1], b[2]), -1);
        }
        due.is("it stays", x.count(3), 40);
        due.is("a refused sheet is nothing", x.lay(3, 0, 0), -11);
    }

    private static void lay() {
        PartSitters x = new PartSitters();
        x.sheet(2, 0, 3);
        for (int i : new int[] {-1, 3, LOW, HIGH}) {
            due.is("index", x.lay(2, i, 0), -12);
            due.is("null", x.lay(1, i, 0), -11);
        }
        for (int k : new int[] {-1, 4, LOW, HIGH}) {
            due.is("lay BAD", x.lay(k, 0, 0), -1);
        }
        due.is("lay", x.lay(2, 2, HIGH), 1);
    }

    private static void read() {
        PartSitters x = due.told("parts 3;plain 0 0;plain 0 0;");
        x.sheet(1, 2, 7);
        int[] cells = {0, 1, 2, 0, 2, 1, 0};
        for (int i = 0; i < 7; i++) {
            x.lay(1, i, cells[i]);
        }
        due.is("all whole", x.read(1, 2, 0, 3), 3);
        due.is("no fault", x.torn(), 0);
        due.is("part 0", x.part(0, 2), 1);
        due.is("part 2", x.layer(2, 0), 0);
        due.is("part 2", x.layer(2, 1), 1);
        due.is("the 4th is half", x.read(1, 2, 0, 4), 3);
        due.is("index", x.torn(), 2);
        due.is("three did", x.count(4), 6);
        due.is("of n 0 no fault", x.read(1, 2, 0, 0), 0);
        due.is("no fault", x.torn(), 0);
        due.is("half", x.read(1, 2, 6, 1), 0);
        due.is("index", x.torn(), 2);
        for (int f : new int[] {-1, -2, 7, LOW, HIGH, HIGH - 1}) {
            due.is("nothing sat", x.read(1, 2, f, 20), 0);
            due.is("index", x.torn(), 2);
        }
        due.is("another lane", x.read(1, 1, 0, 1), 0);
        due.is("cast", x.torn(), 3);
        due.is("another lane, no such cell", x.read(1, 0, -9, 1), 0);
        due.is("cast ahead of index", x.torn(), 3);
        due.is("nothing", x.read(0, 1, -9, 1), 0);
        due.is("null", x.torn(), 1);
        due.is("of n 0", x.read(0, 1, -9, 0), 0);
        due.is("no fault", x.torn(), 0);
        due.is("still six", x.count(4), 6);
        due.is("from cell 5 on", x.read(1, 2, 5, 1), 1);
        due.is("part 1 by 0", x.part(1, 2), 0);
    }

    private static void refusedReads() {
        PartSitters x = due.told("parts 2;plain 0 0;plain 0 0;");
        x.sheet(1, 0, 40);
        for (int i = 0; i < 8; i += 2) {
            x.lay(1, i + 1, 1);
        }
        x.lay(1, 8, 1);
        x.lay(1, 9, 2);
        due.is("torn ahead", x.read(2, 0, 0, 1), 0);
        String before = State.of(x);
        due.is("no such sitter", x.read(1, 0, 0, 5), -24);
        due.is("the 5th layer", x.read(1, 0, 2, 20), -23);
        x.lay(1, 9, 0);
        x.lay(1, 10, 1);
        due.is("the 7th", x.read(1, 0, 0, 20), -26);
        x.lay(1, 0, -1);
        due.is("the first", x.read(1, 0, 0, 20), -20);
        due.is("behind the fault", x.read(1, 0, 39, 20), 0);
        due.is("index", x.torn(), 2);
        x.read(2, 0, 0, 1);
        int[][] bad = {{-1, 0, 0}, {4, 0, 0}, {1, -1, 0}, {1, 3, 0}, {1, 0, -1}, {1, 0, 21}, {LOW, 0, 1}, {HIGH, 0, 1},
            {1, LOW, 1}, {1, HIGH, 1}, {1, 0, LOW}, {1, 0, HIGH}};
        for (int[] b : bad) {
            due.is("read BAD", x.read(b[0], b[1], 0, b[2]), -1);
        }
        due.is("nothing is changed, torn() neither", State.of(x).equals(before) ? 1 : 0, 1);
        // Of two cells ahead of the end the pair is whole; what is behind is not met.
        PartSitters y = due.told("parts 2;plain 0 0;");
        y.sheet(0, 1, 5);
        y.lay(0, 4, 9);
        due.is("two, then half a pair", y.read(0, 1, 0, 3), 2);
        due.is("index", y.torn(), 2);
        y.lay(0, 2, 9);
        due.is("the second is refused first", y.read(0, 1, 0, 3), -21);
        due.is("torn stays", y.torn(), 2);
        due.is("two sat", y.count(4), 2);
    }

    private static void lanes() {
        int[][] bits = {{256, 65536, 1 << 16}, {257, 65537, 1}, {-256, -65536, 0}};
        for (int lane = 0; lane < 3; lane++) {
            PartSitters x = due.told("parts 2;plain 0 0;plain 0 0;");
            x.sheet(0, lane, 2);
            x.lay(0, 0, bits[0][lane == 2 ? 0 : lane]);
            due.is("lowest bits, lane " + lane, x.read(0, lane, 0, 1), lane == 2 ? -20 : 1);
            x.lay(0, 0, bits[1][lane]);
            due.is("lowest bits, lane " + lane, x.read(0, lane, 0, 1), 1);
            due.is("part 1", x.part(1, 1), 1);
            x.lay(0, 0, bits[2][lane]);
            due.is("below 0, lane " + lane, x.read(0, lane, 0, 1), 1);
            // All have a sign: these are -128 and -32768, and as a SITTER none at all.
            x.lay(0, 1, lane == 0 ? 128 : lane == 1 ? 32768 : LOW);
            due.is("a sign, lane " + lane, x.read(0, lane, 0, 1), -20);
            x.lay(0, 1, lane == 0 ? 255 : lane == 1 ? 65535 : -1);
            due.is("a sign, lane " + lane, x.read(0, lane, 0, 1), -20);
        }
        // A short is no byte: 256 stays what it is.
        PartSitters x = due.told("parts 2;plain 0 0;");
        x.sheet(0, 1, 2);
        x.lay(0, 0, 256);
        due.is("256 as a short", x.read(0, 1, 0, 1), -20);
        x.sheet(0, 1, 2);
        due.is("cells 0 again", x.read(0, 1, 0, 1), 1);
    }

    private static void count() {
        PartSitters x = due.told("parts 3;plain 0 0;plain 1 0;bond 0 1;bond 1 2;bond 0 2;worth 0 5;paint 0 0;paint 1 1;paint 1 1;paint 2 0;");
        x.see(0, 1, true);
        x.see(0, 2, true);
        x.keep(1);
        Due.feed(x, "abc");
        x.sheet(0, 1, 12);
        x.alter(0, 0, 3);
        int[] now = {2, 1, 3, 12, 4, 1, 7};
        for (int what = 0; what < 7; what++) {
            due.is("count " + what, x.count(what), now[what]);
        }
        for (int what : new int[] {-1, 7, LOW, HIGH}) {
            due.is("count BAD", x.count(what), -1);
        }
        x.keep(0);
        due.is("two images", x.count(1), 2);
    }
}
