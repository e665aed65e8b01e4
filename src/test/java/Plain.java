import java.util.ArrayList;
import java.util.Arrays;
import java.util.List;

/**
 * What the document says, once more and as literally as can be: all pictures are written out, all orders
 * of sitters gone through, all ways to die. It takes what there is from an object's public face, or it is
 * what Model has told it.
 */
final class Plain {
    int parts;
    int sitters;
    int[] worth;
    final List<List<Integer>> layers = new ArrayList<>();
    int[][] sitter;
    int[][] bonds;
    int[] forgers;
    final List<int[]> seen;
    int day;
    int last;

    /** So many bare PARTS of WORTH 1, nobody. */
    Plain(int parts, List<int[]> seen) {
        this.seen = seen;
        this.parts = parts;
        sitters = 0;
        day = 0;
        last = -4;
        worth = new int[parts];
        Arrays.fill(worth, 1);
        for (int p = 0; p < parts; p++) {
            layers.add(new ArrayList<>());
        }
        sitter = new int[0][];
        bonds = new int[0][];
        forgers = new int[0];
    }

    /** As another one is; what is SEEN is the same list. */
    Plain(Plain other) {
        seen = other.seen;
        parts = other.parts;
        sitters = other.sitters;
        day = other.day;
        last = other.last;
        worth = other.worth.clone();
        for (List<Integer> all : other.layers) {
            layers.add(new ArrayList<>(all));
        }
        sitter = new int[sitters][];
        for (int s = 0; s < sitters; s++) {
            sitter[s] = other.sitter[s].clone();
        }
        bonds = other.bonds;
        forgers = other.forgers;
    }

    Plain(PartSitters x, List<int[]> seen) {
        this.seen = seen;
        parts = x.rule(0);
        sitters = x.rule(1);
        day = x.rule(4);
        last = x.rule(5);
        worth = new int[parts];
        for (int p = 0; p < parts; p++) {
            worth[p] = x.part(p, 0);
            layers.add(new ArrayList<>());
            for (int k = 0; k < x.part(p, 1); k++) {
                layers.get(p).add(x.layer(p, k));
            }
        }
        sitter = new int[sitters][5];
        for (int s = 0; s < sitters; s++) {
            for (int what = 0; what < 5; what++) {
                sitter[s][what] = x.sitter(s, what);
            }
        }
        bonds = new int[x.rule(2)][2];
        for (int b = 0; b < bonds.length; b++) {
            bonds[b][0] = x.bond(b, 0);
            bonds[b][1] = x.bond(b, 1);
        }
        forgers = new int[x.rule(3)];
        for (int f = 0; f < forgers.length; f++) {
            forgers[f] = x.forger(f);
        }
    }

    /** Who shows; -1: bare. */
    int[] tops() {
        int[] tops = new int[parts];
        for (int p = 0; p < parts; p++) {
            List<Integer> all = layers.get(p);
            tops[p] = all.isEmpty() ? -1 : all.get(all.size() - 1);
        }
        return tops;
    }

    boolean like(int s, int t) {
        return s == t || finds(s, t) && finds(t, s);
    }

    private boolean finds(int s, int t) {
        int kind = sitter[s][0];
        int apart = Math.abs(sitter[s][1] - sitter[t][1]);
        boolean bothTwins = kind == 1 && sitter[t][0] == 1;
        return kind == 0 && apart < 2 || kind == 1 && (apart < 2 || bothTwins) || kind == 2 && apart == 0;
    }

    int likeBonds(int[] tops) {
        int n = 0;
        for (int[] b : bonds) {
            if (tops[b[0]] >= 0 && tops[b[1]] >= 0 && like(tops[b[0]], tops[b[1]])) {
                n++;
            }
        }
        return n;
    }

    private boolean fits(int[] picture) {
        return likeBonds(picture) == bonds.length;
    }

    private boolean possible(int[] picture) {
        for (int[] one : seen) {
            if ((picture[one[0]] == picture[one[1]]) != (one[2] == 1)) {
                return false;
            }
        }
        return fits(picture);
    }

    /** Every PICTURE, by number. */
    private List<int[]> pictures() {
        List<int[]> all = new ArrayList<>();
        int many = sitters == 0 ? 0 : 1;
        for (int p = 0; p < parts; p++) {
            many *= sitters;
        }
        for (int n = 0; n < many; n++) {
            int[] picture = new int[parts];
            int rest = n;
            for (int p = parts - 1; p >= 0; p--) {
                picture[p] = rest % sitters;
                rest /= sitters;
            }
            all.add(picture);
        }
        return all;
    }

    private int number(int[] picture) {
        int n = 0;
        for (int s : picture) {
            n = n * sitters + s;
        }
        return n;
    }

    int many() {
        int n = 0;
        for (int[] picture : pictures()) {
            n += fits(picture) ? 1 : 0;
        }
        return n;
    }

    int mend(int what) {
        int least = Integer.MAX_VALUE;
        int first = -4;
        int[] tops = tops();
        for (int[] picture : pictures()) {
            int other = 0;
            for (int p = 0; p < parts; p++) {
                other += picture[p] == tops[p] ? 0 : 1;
            }
            if (fits(picture) && other < least) {
                least = other;
                first = number(picture);
            }
        }
        return first == -4 || what == 1 ? first : least;
    }

    int cheap(int m, int what) {
        int least = Integer.MAX_VALUE;
        int first = -4;
        for (int[] picture : pictures()) {
            int cost = 0;
            int[] times = new int[sitters];
            boolean fair = true;
            for (int p = 0; p < parts; p++) {
                cost += sitter[picture[p]][2] * worth[p];
                fair &= ++times[picture[p]] <= m;
            }
            if (fair && fits(picture) && cost < least) {
                least = cost;
                first = number(picture);
            }
        }
        return first == -4 || what == 1 ? first : least;
    }

    int next(int what) {
        int most = -4;
        int first = -4;
        for (int p = 0; p < parts; p++) {
            for (int s = 0; s < sitters; s++) {
                int[] tops = tops();
                tops[p] = s;
                if (likeBonds(tops) > most) {
                    most = likeBonds(tops);
                    first = 10 * p + s;
                }
            }
        }
        return what == 0 ? first : most;
    }

    int value(int some) {
        int[] tops = tops();
        int sum = 0;
        for (int p = 0; p < parts; p++) {
            sum += tops[p] >= 0 && (some & 1 << tops[p]) != 0 ? worth[p] : 0;
        }
        for (int[] b : bonds) {
            int s = tops[b[0]];
            int t = tops[b[1]];
            if (s >= 0 && t >= 0 && (some & 1 << s) != 0 && (some & 1 << t) != 0 && like(s, t)) {
                sum += Math.min(worth[b[0]], worth[b[1]]);
            }
        }
        return sum;
    }

    long share(int s, int what) {
        long[] sum = {0, 0};
        orders(s, 0, sum);
        return lowest(sum[0], sum[1], what);
    }

    /** Adds, over all orders in which some have come, what VALUE grows by s, and how many orders. */
    private void orders(int s, int come, long[] sum) {
        if ((come & 1 << s) != 0) {
            // The orders of those behind him all grow alike by him.
            long behind = 1;
            for (int k = 2; k <= sitters - Integer.bitCount(come); k++) {
                behind *= k;
            }
            sum[0] += behind * (value(come) - value(come & ~(1 << s)));
            sum[1] += behind;
            return;
        }
        for (int t = 0; t < sitters; t++) {
            if ((come & 1 << t) == 0) {
                orders(s, come | 1 << t, sum);
            }
        }
    }

    int looks(int what) {
        int[] tops = tops();
        int best = -4;
        for (int count = 0; count <= parts && best == -4; count++) {
            for (int set = 0; set < 1 << parts && best == -4; set++) {
                boolean all = Integer.bitCount(set) == count;
                for (int unknown : forgers) {
                    int found = 0;
                    for (int p = 0; p < parts; p++) {
                        if ((set & 1 << p) != 0 && tops[p] >= 0 && (unknown & 1 << tops[p]) != 0) {
                            found++;
                        }
                    }
                    all &= found > 0;
                }
                best = all ? set : best;
            }
        }
        return best == -4 || what == 1 ? best : Integer.bitCount(best);
    }

    long alive(int v, int what) {
        long good = 0;
        int shown = 0;
        for (int top : tops()) {
            shown |= top >= 0 ? 1 << top : 0;
        }
        for (int live = 0; live < 1 << sitters; live++) {
            good += (shown & ~live) == 0 ? odds(live, v) : 0;
        }
        return lowest(good, power(10, sitters), what);
    }

    long mean(int v, int what) {
        long sum = 0;
        for (int live = 0; live < 1 << sitters; live++) {
            sum += odds(live, v) * value(live);
        }
        return lowest(sum, power(10, sitters), what);
    }

    /** Out of 10 to the SITTERS: that just these live. */
    private long odds(int live, int v) {
        int n = Integer.bitCount(live);
        return power(10 - v, n) * power(v, sitters - n);
    }

    private static long power(long base, int n) {
        long product = 1;
        for (int i = 0; i < n; i++) {
            product *= base;
        }
        return product;
    }

    private static long lowest(long numerator, long denominator, int what) {
        long n = numerator;
        long d = denominator;
        for (long k = 2; k <= d; k++) {
            while (n % k == 0 && d % k == 0) {
                n /= k;
                d /= k;
            }
        }
        return what == 0 ? n : d;
    }

    int fits(int what) {
        int n = 0;
        int first = -4;
        for (int[] picture : pictures()) {
            if (possible(picture)) {
                first = n == 0 ? number(picture) : first;
                n++;
            }
        }
        return what == 0 ? n : first;
    }

    int ask(int what) {
        List<int[]> now = pictures();
        now.removeIf(picture -> !possible(picture));
        int fewest = now.size();
        int pair = -4;
        for (int p = 0; p < parts; p++) {
            for (int q = p + 1; q < parts; q++) {
                int yes = 0;
                int no = 0;
                for (int[] picture : now) {
                    if (picture[p] == picture[q]) {
                        yes++;
                    } else {
                        no++;
                    }
                }
                if (Math.max(yes, no) < fewest) {
                    fewest = Math.max(yes, no);
                    pair = 10 * p + q;
                }
            }
        }
        return pair == -4 || what == 0 ? pair : fewest;
    }

    int drift(int seed, int n, int what) {
        long now = seed & 0xffffffffL;
        for (int i = 0; i < n; i++) {
            now = (now * 1103515245L + 12345L) & 0xffffffffL;
            int p = (int) ((now >> 16) % 32768 % parts);
            now = (now * 1103515245L + 12345L) & 0xffffffffL;
            cover(p, (int) ((now >> 16) % 32768 % sitters));
        }
        return what == 0 ? value((1 << sitters) - 1) : likeBonds(tops());
    }

    private void cover(int p, int s) {
        if (layers.get(p).size() == 4) {
            layers.get(p).remove(0);
        }
        layers.get(p).add(s);
    }

    /** A DAY goes: what each would earn if nothing were too much. */
    int[] passDay() {
        List<Integer> round = new ArrayList<>();
        for (int s = last < 0 ? 0 : last + 1; s < sitters; s++) {
            round.add(s);
        }
        for (int s = 0; s <= last; s++) {
            round.add(s);
        }
        for (int s : round) {
            if ((sitter[s][3] & 1 << day % 7) != 0) {
                cover(day % parts, s);
                last = s;
                break;
            }
        }
        int[] had = new int[sitters];
        int[] tops = tops();
        for (int p = 0; p < parts; p++) {
            if (tops[p] >= 0) {
                had[tops[p]] += worth[p];
            }
        }
        for (int s = 0; s < sitters; s++) {
            had[s] = sitter[s][0] == 2 ? had[s] / 2 : had[s];
            sitter[s][4] = Math.min(999, sitter[s][4] + had[s]);
        }
        day++;
        return had;
    }

    /** How many LAYERS n DAYS paint, by what each PART has been painted. */
    int go(int n) {
        int painted = 0;
        for (int i = 0; i < n; i++) {
            boolean somebody = false;
            for (int s = 0; s < sitters; s++) {
                somebody |= (sitter[s][3] & 1 << day % 7) != 0;
            }
            painted += somebody ? 1 : 0;
            passDay();
        }
        return painted;
    }

    int ahead(int s, int n, int what) {
        int before = sitter[s][4];
        go(n);
        int bits = 0;
        int[] tops = tops();
        for (int p = 0; p < parts; p++) {
            bits += tops[p] == s ? 1 << p : 0;
        }
        return what == 0 ? sitter[s][4] - before : bits;
    }

    int when(int p, int s) {
        for (int days = 0; days <= 60; days++) {
            if (tops()[p] == s) {
                return days;
            }
            passDay();
        }
        return -4;
    }

    int even() {
        int[] all = new int[sitters];
        for (int days = 1; days <= 60 && sitters > 0; days++) {
            int[] had = passDay();
            for (int s = 0; s < sitters; s++) {
                all[s] += had[s];
            }
            if (Arrays.stream(all).distinct().count() == 1) {
                return days;
            }
        }
        return -4;
    }
}
