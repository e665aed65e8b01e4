import java.util.ArrayList;
import java.util.List;
import java.util.Random;

/**
 * Objects that are used for all of their 512 calls, at random, each answer beside that of a Model: texts that
 * replace texts, THE TAPE filled and cut, images between days, drifts, sheets and looks.
 */
public final class LongRunTest {
    private static final Due due = new Due("LongRunTest");
    private static final int[] EDGES = {Integer.MIN_VALUE, -129, -41, -5, -2, -1, 0, 1, 2, 3, 4, 5, 6, 7, 9, 10, 11, 20, 21,
        39, 40, 41, 60, 61, 127, 128, 160, 161, 256, 999, 65536, Integer.MAX_VALUE - 1, Integer.MAX_VALUE};
    private static final String SIGNS = "0123456789; a$";
    private static final String[] KINDS = {"plain", "twin", "shadow", "stranger"};
    private static final String[] SCRAPS = {"parts 6;", "parts 2;", "worth 1 9;", "bond 0 1;", "forger 0;", "paint 0 0;",
        "twin 3 4;", "plain", ";", "$", "7", "123", " ", "stranger0 0", "paint 5", "bond 3 3;", "forger;", "judge", "x"};
    /** What is called between texts, by the bent of a run. */
    private static final String[][] BENTS = {
        {"rule", "part", "layer", "sitter", "bond", "forger", "paint", "scrape", "alter", "worth", "like", "go", "ahead", "when",
            "even", "many", "mend", "cheap", "next", "value", "share", "looks", "alive", "mean", "see", "forget", "fits",
            "ask", "drift", "keep", "back", "sheet", "lay", "read", "torn", "count", "fault", "feed", "end", "text"},
        {"go", "go", "go", "keep", "back", "ahead", "when", "even", "looks", "drift", "read", "alter", "paint", "sitter", "rule",
            "layer", "part", "worth"},
        {"lay", "lay", "lay", "read", "read", "sheet", "torn", "keep", "back", "go", "drift", "scrape", "part", "layer", "count"},
        {"see", "see", "forget", "fits", "ask", "keep", "back", "alter", "mend", "cheap", "next", "many", "paint", "value",
            "mean", "alive", "share", "looks", "drift", "bond"},
        {"feed", "feed", "feed", "end", "end", "fault", "count", "keep", "back", "see", "go", "rule", "sitter", "bond",
            "forger", "part", "layer"}};

    private final Random by;
    private final String at;
    private final Called x = new Called();
    private final Model model = new Model();

    private LongRunTest(int seed) {
        by = new Random(seed);
        at = "seed " + seed;
    }

    public static void main(String[] args) {
        int first = args.length > 0 ? Integer.parseInt(args[0]) : 0;
        int behind = args.length > 1 ? Integer.parseInt(args[1]) : 250;
        for (int seed = first; seed < behind; seed++) {
            new LongRunTest(seed).run(BENTS[seed % BENTS.length], seed % BENTS.length == 4);
        }
        due.close();
    }

    private void run(String[] bent, boolean ofTexts) {
        int untilText = by.nextInt(3);
        call("sheet 0 1 " + by.nextInt(41));
        while (x.calls() < Called.MOST_CALLS) {
            if (untilText-- == 0) {
                tell();
                untilText = ofTexts ? by.nextInt(15) : 60 + by.nextInt(100);
            }
            one(bent[by.nextInt(bent.length)]);
            if (x.calls() == Called.MOST_CALLS - 70) {
                allThereIs();
            }
        }
    }

    /** Makes a call, if the object still answers for it. */
    private long call(String words) {
        if (x.calls() == Called.MOST_CALLS) {
            return PartSitters.BAD;
        }
        long got = x.call(words);
        due.is(at + ", call " + x.calls() + ", " + words, got, model.answer(words));
        return got;
    }

    // ---- texts

    private void tell() {
        if (by.nextInt(8) == 0) {
            fill();
        } else if (by.nextInt(2) == 0) {
            call("end 0");
        }
        feed(by.nextInt(6) == 0 ? scraps() : by.nextInt(4) == 0 ? spoilt(text()) : text());
        if (by.nextInt(6) == 0) {
            call("end " + by.nextInt(60));
            feed(by.nextInt(2) == 0 ? ";" : text());
        }
        call("text");
        call("fault");
        call("count 2");
    }

    /** All of THE TAPE with blanks, one more, and most of them cut off again. */
    private void fill() {
        while (call("feed 32") > 0) {
            continue;
        }
        call("count 2");
        call("end " + by.nextInt(30));
    }

    private void feed(String bytes) {
        for (int i = 0; i < bytes.length(); i++) {
            call("feed " + (int) bytes.charAt(i));
        }
    }

    private String scraps() {
        StringBuilder all = new StringBuilder();
        for (int n = by.nextInt(6); n >= 0; n--) {
            all.append(SCRAPS[by.nextInt(SCRAPS.length)]);
        }
        return all.toString();
    }

    /** A byte of it is another one, or is gone; or a line of it comes once more. */
    private String spoilt(String text) {
        int at = by.nextInt(text.length());
        switch (by.nextInt(3)) {
            case 0: return text.substring(0, at) + SIGNS.charAt(by.nextInt(SIGNS.length())) + text.substring(at + 1);
            case 1: return text.substring(0, at) + text.substring(at + 1);
            default: return text + text.substring(text.lastIndexOf(';', at) + 1);
        }
    }

    private String text() {
        int parts = 2 + by.nextInt(by.nextInt(6) == 0 ? 6 : 4);
        int sitters = by.nextInt(8) == 0 ? by.nextInt(7) : 1 + by.nextInt(4);
        List<String> lines = new ArrayList<>();
        if (parts != 4 || by.nextBoolean()) {
            lines.add("parts " + parts);
        }
        for (int s = 0; s < sitters; s++) {
            String days = by.nextInt(3) == 0 ? " 0 2 4 6" : " " + by.nextInt(7);
            lines.add(KINDS[by.nextInt(4)] + by.nextInt(6) + " " + by.nextInt(10) + days);
        }
        for (int n = by.nextInt(by.nextInt(4) == 0 ? 7 : 4); n > 0; n--) {
            int p = by.nextInt(parts);
            lines.add("bond" + p + " " + (p + 1 + by.nextInt(parts - 1)) % parts);
        }
        if (by.nextInt(2) == 0) {
            lines.add("worth" + by.nextInt(parts) + " " + by.nextInt(10));
        }
        for (int n = by.nextInt(by.nextInt(4) == 0 ? 9 : 3); n > 0; n--) {
            int s = by.nextInt(8) == 0 ? by.nextInt(5) : by.nextInt(Math.max(1, sitters));
            lines.add((by.nextInt(2) == 0 ? "forger" : "paint" + by.nextInt(parts) + " ") + s);
        }
        return String.join(";", lines) + ";";
    }

    // ---- single calls

    private void one(String name) {
        switch (name) {
            case "text": tell(); break;
            case "fault": case "even": case "many": case "torn": call(name); break;
            case "feed": call("feed " + (by.nextInt(20) == 0 ? any() : 32)); break;
            case "end": call("end " + (by.nextInt(9) == 0 ? any() : by.nextInt(6))); break;
            case "see": call("see " + part() + " " + part() + (by.nextInt(4) == 0 ? " yes" : " no")); break;
            case "alter": alter(); break;
            case "cheap": call("cheap " + (by.nextInt(20) == 0 ? any() : 1 + small(6)) + " " + small(2)); break;
            case "drift": call("drift " + by.nextInt() + " " + small(60) + " " + small(2)); break;
            case "ahead": call("ahead " + sitter() + " " + small(61) + " " + small(2)); break;
            case "alive": case "mean": call(name + " " + small(11) + " " + small(2)); break;
            case "value": call("value " + small(1 << model.sitters())); break;
            case "go": call("go " + (by.nextInt(6) == 0 ? 999 + by.nextInt(2) - model.day() : small(61))); break;
            case "worth": call("worth " + part() + " " + small(10)); break;
            case "sheet": call("sheet " + sheetNumber() + " " + lane() + " " + small(41)); break;
            case "lay": call("lay " + sheetNumber() + " " + small(by.nextInt(3) == 0 ? 40 : 9) + " " + value()); break;
            case "read": read(); break;
            case "rule": case "count": call(name + " " + small(7)); break;
            case "part": call("part " + part() + " " + small(3)); break;
            case "layer": call("layer " + part() + " " + small(4)); break;
            case "sitter": call("sitter " + sitter() + " " + small(6)); break;
            case "bond": call("bond " + small(model.bonds() + 1) + " " + small(3)); break;
            case "when": case "paint": call(name + " " + part() + " " + sitter()); break;
            case "like": call("like " + sitter() + " " + sitter()); break;
            case "share": call("share " + sitter() + " " + small(2)); break;
            case "scrape": call("scrape " + part()); break;
            case "forger": call("forger " + small(model.forgers() + 1)); break;
            case "forget": call("forget " + small(by.nextInt(2) == 0 ? 2 : 7)); break;
            default: call(name + " " + small(2));
        }
    }

    private int any() {
        return EDGES[by.nextInt(EDGES.length)];
    }

    /** One of so many, from 0 on; at times the first behind them, or any number. */
    private int small(int many) {
        switch (by.nextInt(50)) {
            case 0: return any();
            case 1: return -1;
            case 2: return many;
            default: return by.nextInt(many);
        }
    }

    private int part() {
        return small(model.parts());
    }

    private int sitter() {
        return small(Math.max(1, model.sitters()));
    }

    private int sheetNumber() {
        return by.nextInt(4) == 0 ? small(4) : 0;
    }

    private int lane() {
        return by.nextInt(4) == 0 ? small(3) : 1;
    }

    /** Mostly what can be a PART or a SITTER, at times in the lowest bits of more. */
    private int value() {
        int bits = by.nextInt(3);
        switch (by.nextInt(12)) {
            case 0: return bits + 256 * by.nextInt(5);
            case 1: return bits + 65536 * by.nextInt(5);
            case 2: return any();
            default: return bits;
        }
    }

    private void alter() {
        int what = by.nextInt(25) == 0 ? any() : by.nextInt(4);
        int most = what == 0 ? 4 : what == 1 ? 6 : what == 2 ? 10 : 128;
        call("alter " + sitter() + " " + what + " " + small(most));
    }

    private void read() {
        int n = by.nextInt(8) == 0 ? small(21) : by.nextInt(4);
        call("read " + sheetNumber() + " " + lane() + " " + small(8) + " " + n);
    }

    /** Asks of most that there is. */
    private void allThereIs() {
        for (int what = 0; what < 7; what++) {
            call("rule " + what);
            call("count " + what);
        }
        for (int p = 0; p < model.parts(); p++) {
            call("part " + p + " 0");
            for (int k = 0; k < 4; k++) {
                call("layer " + p + " " + k);
            }
        }
        for (int s = 0; s < model.sitters(); s++) {
            call("sitter " + s + " 0");
            call("sitter " + s + " 4");
        }
        call("torn");
        call("fault");
    }
}
