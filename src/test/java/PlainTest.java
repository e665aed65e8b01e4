import java.util.ArrayList;
import java.util.List;
import java.util.Random;

/** Random streets, changed at random; what the calls answer must be what Plain works out at length. */
public final class PlainTest {
    private static final Due due = new Due("PlainTest");
    private static final String[] KINDS = {"plain", "twin", "shadow", "stranger"};

    public static void main(String[] args) {
        for (int seed = 0; seed < 400; seed++) {
            run(seed);
        }
        due.close();
    }

    private static void run(int seed) {
        Random by = new Random(seed);
        String text = text(by);
        PartSitters x = due.told(text);
        List<int[]> seen = new ArrayList<>();
        for (int turn = 0; turn < 3; turn++) {
            String at = "seed " + seed + ", turn " + turn + ", \"" + text + "\": ";
            compareDays(at, x, seen, by);
            comparePictures(at, x, seen);
            compareSums(at, x, seen, by);
            change(at, x, seen, by);
        }
    }

    private static String text(Random by) {
        StringBuilder text = new StringBuilder();
        int parts = 2 + by.nextInt(5);
        // Most pictures are walked through at length: five sitters on six parts are rarer.
        int sitters = parts > 4 ? by.nextInt(by.nextInt(8) == 0 ? 6 : 4) : by.nextInt(6);
        text.append("parts ").append(parts).append(';');
        int kinds = 1 + by.nextInt(4);
        int miens = 1 + by.nextInt(6);
        for (int s = 0; s < sitters; s++) {
            text.append(KINDS[by.nextInt(kinds)]).append(' ').append(by.nextInt(miens)).append(' ').append(by.nextInt(10));
            for (int day = 0; day < 7; day++) {
                text.append(by.nextInt(3) == 0 ? " " + day : "");
            }
            text.append(';');
        }
        for (int b = by.nextInt(4); b > 0; b--) {
            int p = by.nextInt(parts);
            text.append("bond ").append(p).append(' ').append((p + 1 + by.nextInt(parts - 1)) % parts).append(';');
        }
        for (int f = by.nextInt(3); f > 0; f--) {
            text.append("forger");
            for (int s = 0; s < sitters; s++) {
                text.append(by.nextInt(3) == 0 ? " " + s : "");
            }
            text.append(';');
        }
        return text.length() > 160 ? text(by) : text.toString();
    }

    private static void change(String at, PartSitters x, List<int[]> seen, Random by) {
        int parts = x.rule(0);
        int sitters = x.rule(1);
        for (int p = 0; p < parts; p++) {
            x.worth(p, by.nextInt(10));
        }
        for (int i = 0; i < 8 && sitters > 0; i++) {
            x.paint(by.nextInt(parts), by.nextInt(sitters));
            if (by.nextInt(3) == 0) {
                x.scrape(by.nextInt(parts));
            }
        }
        for (int s = 0; s < sitters; s++) {
            x.alter(s, 0, by.nextInt(4));
            x.alter(s, 1, by.nextInt(3));
            x.alter(s, 3, by.nextInt(128) & by.nextInt(128));
        }
        int p = by.nextInt(parts);
        int q = (p + 1 + by.nextInt(parts - 1)) % parts;
        boolean is = by.nextInt(3) == 0;
        if (x.see(p, q, is) > 0) {
            seen.add(new int[] {p, q, is ? 1 : 0});
        }
        int n = by.nextInt(61);
        due.is(at + "go(" + n + ")", 0, compareGo(x, seen, n));
    }

    /** Lets n DAYS go; 0 if all is then as Plain has it. */
    private static int compareGo(PartSitters x, List<int[]> seen, int n) {
        Plain plain = new Plain(x, seen);
        int painted = plain.go(n);
        if (x.go(n) != painted || x.rule(4) != plain.day || x.rule(5) != (plain.last < 0 ? -4 : plain.last)) {
            return 1;
        }
        Plain now = new Plain(x, seen);
        for (int s = 0; s < now.sitters; s++) {
            if (now.sitter[s][4] != plain.sitter[s][4]) {
                return 2;
            }
        }
        return now.layers.equals(plain.layers) ? 0 : 3;
    }

    private static void compareDays(String at, PartSitters x, List<int[]> seen, Random by) {
        due.is(at + "even()", x.even(), new Plain(x, seen).even());
        int n = by.nextInt(61);
        for (int s = 0; s < x.rule(1); s++) {
            for (int what = 0; what < 2; what++) {
                due.is(at + "ahead(" + s + ", " + n + ", " + what + ")", x.ahead(s, n, what), new Plain(x, seen).ahead(s, n, what));
            }
            for (int p = 0; p < x.rule(0); p++) {
                due.is(at + "when(" + p + ", " + s + ")", x.when(p, s), new Plain(x, seen).when(p, s));
            }
        }
    }

    private static void comparePictures(String at, PartSitters x, List<int[]> seen) {
        Plain plain = new Plain(x, seen);
        due.is(at + "many()", x.many(), plain.many());
        for (int what = 0; what < 2; what++) {
            due.is(at + "mend(" + what + ")", x.mend(what), plain.mend(what));
            for (int m = 1; m <= 6; m++) {
                due.is(at + "cheap(" + m + ", " + what + ")", x.cheap(m, what), plain.cheap(m, what));
            }
            due.is(at + "next(" + what + ")", x.next(what), plain.next(what));
            due.is(at + "fits(" + what + ")", x.fits(what), plain.fits(what));
            due.is(at + "ask(" + what + ")", x.ask(what), plain.ask(what));
        }
    }

    private static void compareSums(String at, PartSitters x, List<int[]> seen, Random by) {
        Plain plain = new Plain(x, seen);
        for (int some = 0; some < 1 << x.rule(1); some++) {
            due.is(at + "value(" + some + ")", x.value(some), plain.value(some));
        }
        due.is(at + "count(5)", x.count(5), plain.likeBonds(plain.tops()));
        for (int what = 0; what < 2; what++) {
            for (int s = 0; s < x.rule(1); s++) {
                due.is(at + "share(" + s + ", " + what + ")", x.share(s, what), plain.share(s, what));
            }
            due.is(at + "looks(" + what + ")", x.looks(what), plain.looks(what));
            int v = by.nextInt(11);
            due.is(at + "alive(" + v + ", " + what + ")", x.alive(v, what), plain.alive(v, what));
            due.is(at + "mean(" + v + ", " + what + ")", x.mean(v, what), plain.mean(v, what));
            int seed = by.nextInt();
            int n = 1 + by.nextInt(60);
            if (x.rule(1) > 0) {
                due.is(at + "drift(" + seed + ", " + n + ", " + what + ")", x.drift(seed, n, what), new Plain(x, seen).drift(seed, n, what));
            }
        }
    }
}
