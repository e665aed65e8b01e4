import java.util.ArrayList;
import java.util.Arrays;
import java.util.List;

/**
 * A whole object once more: it answers each call of the face, told by words ("paint 0 1"), and changes by it, as
 * the document says. It knows nothing of the class.
 */
final class Model {
    private static final int BAD = -1;
    private static final int STATE = -2;
    private static final int FULL = -3;
    private static final int NONE = -4;
    private final StringBuilder tape = new StringBuilder();
    private final List<int[]> seen = new ArrayList<>();
    private final Plain[] images = new Plain[2];
    private final int[][] sheets = new int[4][];
    private final int[] lanes = new int[4];
    private Plain street = new Plain(4, seen);
    private int fault = 0;
    private int torn = 0;

    long answer(String words) {
        String[] word = words.split(" ");
        int[] a = new int[word.length - 1];
        for (int i = 0; i < a.length; i++) {
            boolean isTruth = word[i + 1].equals("yes") || word[i + 1].equals("no");
            a[i] = isTruth ? (word[i + 1].equals("yes") ? 1 : 0) : Integer.parseInt(word[i + 1]);
        }
        switch (word[0]) {
            case "feed": case "end": case "text": case "fault": return tape(word[0], a);
            case "rule": case "part": case "layer": case "sitter": case "bond": case "forger": return shown(word[0], a);
            case "paint": case "scrape": case "alter": case "worth": case "like": return changed(word[0], a);
            case "go": case "ahead": case "when": case "even": return days(word[0], a);
            case "many": case "mend": case "cheap": case "next": return fitting(word[0], a);
            case "value": case "share": case "looks": case "alive": case "mean": return shares(word[0], a);
            case "see": case "forget": case "fits": case "ask": case "drift": return asked(word[0], a);
            case "keep": case "back": return image(word[0], a[0]);
            case "sheet": return sheet(a[0], a[1], a[2]);
            case "lay": return lay(a[0], a[1], a[2]);
            case "read": return read(a[0], a[1], a[2], a[3]);
            case "torn": return torn;
            case "count": return count(a[0]);
            default: throw new IllegalArgumentException(words);
        }
    }

    int parts() {
        return street.parts;
    }

    int sitters() {
        return street.sitters;
    }

    int day() {
        return street.day;
    }

    int bonds() {
        return street.bonds.length;
    }

    int forgers() {
        return street.forgers.length;
    }

    private static boolean in(int v, int least, int most) {
        return least <= v && v <= most;
    }

    private boolean isPart(int p) {
        return in(p, 0, street.parts - 1);
    }

    private boolean isSitter(int s) {
        return in(s, 0, street.sitters - 1);
    }

    private int bitsOfParts(int shown) {
        int bits = 0;
        int[] tops = street.tops();
        for (int p = 0; p < street.parts; p++) {
            bits += tops[p] == shown ? 1 << p : 0;
        }
        return bits;
    }

    private int tape(String call, int[] a) {
        switch (call) {
            case "feed":
                if (!in(a[0], 0, 127)) {
                    return BAD;
                }
                return tape.length() == 160 ? FULL : tape.append((char) a[0]).length();
            case "end":
                if (!in(a[0], 0, tape.length())) {
                    return BAD;
                }
                int had = tape.length();
                tape.setLength(a[0]);
                return had;
            case "text": return text();
            default: return fault;
        }
    }

    private int text() {
        String all = tape.toString();
        tape.setLength(0);
        try {
            PlainText read = new PlainText(all);
            seen.clear();
            Arrays.fill(images, null);
            street = read.street(seen);
            fault = 0;
            return read.lines();
        } catch (PlainText.Fault met) {
            fault = met.why;
            return -10 - met.at;
        }
    }

    private int shown(String call, int[] a) {
        switch (call) {
            case "rule":
                int[] rules = {street.parts, street.sitters, street.bonds.length, street.forgers.length, street.day,
                    street.last < 0 ? NONE : street.last, bitsOfParts(-1)};
                return in(a[0], 0, 6) ? rules[a[0]] : BAD;
            case "part":
                if (!isPart(a[0]) || !in(a[1], 0, 2)) {
                    return BAD;
                }
                int top = street.tops()[a[0]];
                return new int[] {street.worth[a[0]], street.layers.get(a[0]).size(), top < 0 ? NONE : top}[a[1]];
            case "layer":
                return isPart(a[0]) && in(a[1], 0, street.layers.get(a[0]).size() - 1) ? street.layers.get(a[0]).get(a[1]) : BAD;
            case "sitter":
                if (!isSitter(a[0]) || !in(a[1], 0, 5)) {
                    return BAD;
                }
                return a[1] == 5 ? bitsOfParts(a[0]) : street.sitter[a[0]][a[1]];
            case "bond":
                if (!in(a[0], 0, street.bonds.length - 1) || !in(a[1], 0, 2)) {
                    return BAD;
                }
                return a[1] == 2 ? showsLike(street.bonds[a[0]]) : street.bonds[a[0]][a[1]];
            default: return in(a[0], 0, street.forgers.length - 1) ? street.forgers[a[0]] : BAD;
        }
    }

    private int showsLike(int[] bond) {
        int s = street.tops()[bond[0]];
        int t = street.tops()[bond[1]];
        return s >= 0 && t >= 0 && street.like(s, t) ? 1 : 0;
    }

    private static int paint(Plain on, int p, int s) {
        if (!in(p, 0, on.parts - 1) || !in(s, 0, on.sitters - 1)) {
            return BAD;
        }
        if (on.layers.get(p).size() == 4) {
            return FULL;
        }
        on.layers.get(p).add(s);
        return on.layers.get(p).size();
    }

    private int changed(String call, int[] a) {
        switch (call) {
            case "paint": return paint(street, a[0], a[1]);
            case "scrape":
                if (!isPart(a[0])) {
                    return BAD;
                }
                List<Integer> layers = street.layers.get(a[0]);
                return layers.isEmpty() ? STATE : layers.remove(layers.size() - 1);
            case "alter":
                int[] most = {3, 5, 9, 127};
                if (!isSitter(a[0]) || !in(a[1], 0, 3) || !in(a[2], 0, most[a[1]])) {
                    return BAD;
                }
                int was = street.sitter[a[0]][a[1]];
                street.sitter[a[0]][a[1]] = a[2];
                return was;
            case "worth":
                if (!isPart(a[0]) || !in(a[1], 0, 9)) {
                    return BAD;
                }
                int before = street.worth[a[0]];
                street.worth[a[0]] = a[1];
                return before;
            default:
                if (!isSitter(a[0]) || !isSitter(a[1])) {
                    return BAD;
                }
                return street.like(a[0], a[1]) ? 1 : 0;
        }
    }

    private int days(String call, int[] a) {
        switch (call) {
            case "go":
                if (!in(a[0], 0, 60)) {
                    return BAD;
                }
                return street.day + a[0] > 999 ? FULL : street.go(a[0]);
            case "ahead":
                if (!isSitter(a[0]) || !in(a[1], 0, 60) || !in(a[2], 0, 1)) {
                    return BAD;
                }
                return new Plain(street).ahead(a[0], a[1], a[2]);
            case "when": return isPart(a[0]) && isSitter(a[1]) ? new Plain(street).when(a[0], a[1]) : BAD;
            default: return new Plain(street).even();
        }
    }

    private int fitting(String call, int[] a) {
        switch (call) {
            case "many": return street.many();
            case "mend": return in(a[0], 0, 1) ? street.mend(a[0]) : BAD;
            case "cheap": return in(a[0], 1, 6) && in(a[1], 0, 1) ? street.cheap(a[0], a[1]) : BAD;
            default: return in(a[0], 0, 1) ? street.next(a[0]) : BAD;
        }
    }

    private long shares(String call, int[] a) {
        switch (call) {
            case "value": return in(a[0], 0, (1 << street.sitters) - 1) ? street.value(a[0]) : BAD;
            case "share": return isSitter(a[0]) && in(a[1], 0, 1) ? street.share(a[0], a[1]) : BAD;
            case "looks": return in(a[0], 0, 1) ? street.looks(a[0]) : BAD;
            case "alive": return in(a[0], 0, 10) && in(a[1], 0, 1) ? street.alive(a[0], a[1]) : BAD;
            default: return in(a[0], 0, 10) && in(a[1], 0, 1) ? street.mean(a[0], a[1]) : BAD;
        }
    }

    private int asked(String call, int[] a) {
        switch (call) {
            case "see":
                if (!isPart(a[0]) || !isPart(a[1]) || a[0] == a[1]) {
                    return BAD;
                }
                if (seen.size() == 6) {
                    return FULL;
                }
                seen.add(new int[] {a[0], a[1], a[2]});
                return seen.size();
            case "forget":
                if (!in(a[0], 0, seen.size())) {
                    return BAD;
                }
                int were = seen.size();
                seen.subList(a[0], were).clear();
                return were;
            case "fits": return in(a[0], 0, 1) ? street.fits(a[0]) : BAD;
            case "ask": return in(a[0], 0, 1) ? street.ask(a[0]) : BAD;
            default:
                if (!in(a[1], 1, 60) || !in(a[2], 0, 1)) {
                    return BAD;
                }
                return street.sitters == 0 ? STATE : new Plain(street).drift(a[0], a[1], a[2]);
        }
    }

    private int image(String call, int k) {
        if (!in(k, 0, 1)) {
            return BAD;
        }
        if (call.equals("keep")) {
            int was = images[k] == null ? 0 : 1;
            images[k] = new Plain(street);
            return was;
        }
        if (images[k] == null) {
            return STATE;
        }
        street = new Plain(images[k]);
        return street.day;
    }

    private int sheet(int k, int lane, int n) {
        if (!in(k, 0, 3) || !in(lane, 0, 2) || n > 40) {
            return BAD;
        }
        if (n < 0) {
            return -14;
        }
        sheets[k] = new int[n];
        lanes[k] = lane;
        return 1;
    }

    private int lay(int k, int i, int v) {
        if (!in(k, 0, 3)) {
            return BAD;
        }
        if (sheets[k] == null) {
            return -11;
        }
        if (!in(i, 0, sheets[k].length - 1)) {
            return -12;
        }
        int unused = new int[] {24, 16, 0}[lanes[k]];
        sheets[k][i] = v << unused >> unused;
        return 1;
    }

    private int read(int k, int lane, int f, int n) {
        if (!in(k, 0, 3) || !in(lane, 0, 2) || !in(n, 0, 20)) {
            return BAD;
        }
        Plain tried = new Plain(street);
        int met = 0;
        int sat = 0;
        while (sat < n && met == 0) {
            long cell = f + 2L * sat;
            if (sheets[k] == null) {
                met = 1;
            } else if (lanes[k] != lane) {
                met = 3;
            } else if (cell < 0 || cell + 1 >= sheets[k].length) {
                met = 2;
            } else if (paint(tried, sheets[k][(int) cell], sheets[k][(int) cell + 1]) < 0) {
                return -20 - sat;
            } else {
                sat++;
            }
        }
        street = tried;
        torn = met;
        return sat;
    }

    private int count(int what) {
        int layers = street.layers.stream().mapToInt(List::size).sum();
        int images = (this.images[0] == null ? 0 : 1) + (this.images[1] == null ? 0 : 1);
        int[] counts = {seen.size(), images, tape.length(), sheets[0] == null ? NONE : sheets[0].length, layers,
            street.likeBonds(street.tops()), Arrays.stream(street.worth).sum()};
        return in(what, 0, 6) ? counts[what] : BAD;
    }
}
