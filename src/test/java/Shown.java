/**
 * All that calls show of an object: what is asked of it, and what it answers behind a change. Each look is at
 * another object with the same calls behind it, so that no look is in another one's way.
 */
final class Shown {
    private static final int CELLS = 40;
    private final Called x;
    private final StringBuilder all = new StringBuilder();

    private Shown(Called x) {
        this.x = x;
    }

    static String of(Called x) {
        Shown shown = new Shown(x);
        shown.street(x.again());
        shown.pictures(x.again());
        shown.days();
        shown.images();
        shown.seen();
        shown.tape();
        shown.sheets();
        return shown.all.toString();
    }

    /** What torn() and fault() tell: not of what there is, but of calls before. */
    static String ofFaults(Called x) {
        Shown shown = new Shown(x);
        shown.ask(x.again(), "torn", "fault");
        return shown.all.toString();
    }

    private void ask(Called y, String... calls) {
        for (String call : calls) {
            all.append(call).append(" = ").append(y.call(call)).append('\n');
        }
    }

    private void askEach(Called y, String call, int least, int most) {
        for (int n = least; n <= most; n++) {
            ask(y, call + " " + n);
        }
    }

    private void street(Called y) {
        askEach(y, "rule", 0, 6);
        askEach(y, "count", 0, 6);
        for (long p = y.call("rule 0") - 1; p >= 0; p--) {
            askEach(y, "part " + p, 0, 2);
            askEach(y, "layer " + p, 0, 4);
        }
        for (long s = y.call("rule 1") - 1; s >= 0; s--) {
            askEach(y, "sitter " + s, 0, 5);
        }
        for (long b = y.call("rule 2") - 1; b >= 0; b--) {
            askEach(y, "bond " + b, 0, 2);
        }
        askEach(y, "forger", 0, 4);
    }

    private void pictures(Called y) {
        int sitters = (int) y.call("rule 1");
        ask(y, "many", "even");
        for (String call : new String[] {"mend", "next", "looks", "fits", "ask", "cheap 6", "cheap 2", "alive 1", "mean 3"}) {
            askEach(y, call, 0, 1);
        }
        askEach(y, "value", 0, (1 << sitters) - 1);
        for (int s = 0; s < sitters; s++) {
            askEach(y, "share " + s, 0, 1);
            askEach(y, "like " + s, 0, sitters - 1);
        }
    }

    private void days() {
        Called y = x.again();
        int sitters = (int) y.call("rule 1");
        for (int s = 0; s < sitters; s++) {
            ask(y, "ahead " + s + " 1 0", "ahead " + s + " 9 1", "ahead " + s + " 60 0", "ahead " + s + " 60 1");
            for (int p = 0; p < y.call("rule 0"); p++) {
                ask(y, "when " + p + " " + s);
            }
        }
        ask(y, "drift 1 1 0", "drift 77 60 0", "drift 77 60 1");
        y = x.again();
        ask(y, "go 1");
        street(y);
    }

    private void images() {
        for (int k = 0; k < 2; k++) {
            Called y = x.again();
            if (y.call("back " + k) >= 0) {
                street(y);
            } else {
                ask(y, "keep " + k);
            }
        }
    }

    private void seen() {
        Called y = x.again();
        for (long n = y.call("count 0"); n >= 0; n--) {
            ask(y, "forget " + n, "fits 0", "fits 1", "ask 0", "ask 1");
        }
    }

    /** What a text of each number of its first bytes would tell. */
    private void tape() {
        long length = x.again().call("count 2");
        for (long n = length; n >= 0; n--) {
            Called y = x.again();
            ask(y, "end " + n, "text", "fault", "count 6");
            askEach(y, "rule", 0, 3);
        }
    }

    private void sheets() {
        for (int k = 0; k < 4; k++) {
            Called y = x.again();
            int size = 0;
            while (size < CELLS && y.call("lay " + k + " " + size + " 0") == 1) {
                size++;
            }
            ask(y, "lay " + k + " " + size + " 0", "count 3");
            for (int lane = 0; lane < 3; lane++) {
                y = x.again();
                ask(y, "read " + k + " " + lane + " 0 1", "torn");
                if (y.call("torn") != 3) {
                    cells(k, lane, size);
                }
            }
        }
    }

    /** Each CELL as a PART for SITTER 0, and as a SITTER for PART 0. */
    private void cells(int k, int lane, int size) {
        for (int i = 0; i + 1 < size; i++) {
            Called y = x.again();
            ask(y, "lay " + k + " " + (i + 1) + " 0", "read " + k + " " + lane + " " + i + " 1");
            ask(y, "sitter 0 5", "count 4", "rule 6");
            y = x.again();
            ask(y, "scrape 0", "lay " + k + " " + i + " 0", "read " + k + " " + lane + " " + i + " 1", "part 0 2");
        }
    }
}
