import java.util.Random;

/** Calls with any numbers in any state: none throws, and one that is refused changes nothing. */
public final class HostileTest {
    private static final Due due = new Due("HostileTest");
    private static final int[] EDGES = {Integer.MIN_VALUE, Integer.MIN_VALUE + 1, -257, -5, -4, -3, -2, -1, 0, 1, 2, 3,
        4, 5, 6, 7, 9, 10, 11, 20, 21, 39, 40, 41, 60, 61, 127, 128, 160, 161, 255, 999, 1000, 65535, Integer.MAX_VALUE - 1,
        Integer.MAX_VALUE};
    private static final String[] SCRAPS = {"parts ", "worth ", "plain ", "twin ", "shadow ", "stranger ", "bond ", "forger ",
        "paint ", ";", ";", " 0", " 1", " 2", " 3 ", "4", " 5", "6", "07", "123", "$", " ", "parts 6;", "plain 0 1 2 3;",
        "twin 3 4 0;", "bond 0 1;", "paint 1 0;", "forger 0;", "shadow 1 1 0 1 2 3 4 5 6;", "worth 1 9;", "stranger 0 0;"};

    public static void main(String[] args) {
        for (int seed = 0; seed < 300; seed++) {
            Random by = new Random(seed);
            PartSitters x = new PartSitters();
            for (int turn = 0; turn < 25; turn++) {
                texts(x, by);
                for (int call = 0; call < 19; call++) {
                    one(x, by);
                }
            }
        }
        due.close();
    }

    private static void texts(PartSitters x, Random by) {
        if (by.nextInt(2) == 0) {
            StringBuilder text = new StringBuilder();
            for (int i = by.nextInt(14); i >= 0; i--) {
                text.append(SCRAPS[by.nextInt(SCRAPS.length)]);
            }
            Due.feed(x, text.toString());
            String before = State.of(x);
            if (x.text() < 0) {
                due.is("a fault is told", x.fault() >= 1 && x.fault() <= 6 ? 1 : 0, 1);
                due.is("what was told stays: " + text, same(before, State.of(x)) ? 1 : 0, 1);
            }
        }
    }

    /** Alike but for the bytes on THE TAPE and the FAULT. */
    private static boolean same(String a, String b) {
        String[] as = a.split(" ");
        String[] bs = b.split(" ");
        if (as.length != bs.length) {
            return false;
        }
        for (int i = 0; i < as.length; i++) {
            // 5: the bytes on THE TAPE; the 4th from the end: the FAULT.
            if (i != 5 && i != as.length - 4 && !as[i].equals(bs[i])) {
                return false;
            }
        }
        return true;
    }

    private static int any(Random by) {
        return by.nextInt(4) == 0 ? EDGES[by.nextInt(EDGES.length)] : by.nextInt(5);
    }

    private static void one(PartSitters x, Random by) {
        int a = any(by);
        int b = any(by);
        int c = any(by);
        int d = any(by);
        int which = by.nextInt(42);
        String before = State.of(x);
        long answer = which < 21 ? low(x, which, a, b, c) : high(x, which, a, b, c, d, by.nextBoolean());
        if (answer < 0) {
            due.is("call " + which + " (" + a + ", " + b + ", " + c + ", " + d + ") answers " + answer + ": nothing is changed",
                    before.equals(State.of(x)) ? 1 : 0, 1);
        }
    }

    private static long low(PartSitters x, int which, int a, int b, int c) {
        switch (which) {
            case 0: return x.feed(a);
            case 1: return x.end(a);
            case 2: return x.fault();
            case 3: return x.rule(a);
            case 4: return x.part(a, b);
            case 5: return x.layer(a, b);
            case 6: return x.sitter(a, b);
            case 7: return x.bond(a, b);
            case 8: return x.forger(a);
            case 9: case 10: return x.paint(a, b);
            case 11: return x.scrape(a);
            case 12: return x.alter(a, b, c);
            case 13: return x.worth(a, b);
            case 14: return x.like(a, b);
            case 15: return x.go(a);
            case 16: return x.ahead(a, b, c);
            case 17: return x.when(a, b);
            case 18: return x.even();
            case 19: return x.many();
            default: return x.mend(a);
        }
    }

    private static long high(PartSitters x, int which, int a, int b, int c, int d, boolean is) {
        switch (which) {
            case 21: return x.cheap(a, b);
            case 22: return x.next(a);
            case 23: return x.value(a);
            case 24: return x.share(a, b);
            case 25: return x.looks(a);
            case 26: return x.alive(a, b);
            case 27: return x.mean(a, b);
            case 28: return x.see(a, b, is);
            case 29: return x.forget(a);
            case 30: return x.fits(a);
            case 31: return x.ask(a);
            case 32: return x.drift(a, b, c);
            case 33: return x.keep(a);
            case 34: return x.back(a);
            case 35: return x.sheet(a, b, c);
            case 36: case 37: return x.lay(a, b, c);
            case 38: case 39: return x.read(a, b, c, d);
            case 40: return x.torn();
            default: return x.count(a);
        }
    }
}
