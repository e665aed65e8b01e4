/** The boundaries of the answers themselves: which one, which first, what is refused changes nothing, 512 calls. */
public final class BoundaryAnswersTest {
    private static final String WHERE = "Terms";
    /** Something of all that there can be: full, half full, FAULTS behind it, bytes on THE TAPE. */
    private static final String[] RICH = {
        "tell 'parts3;plain1 2 0 1;twin2 3 4;shadow0 1 6;bond0 1;bond2 1;forger1;worth1 4;paint2 1;' = 9, go 9 = 6, keep 0 = 0, 2 times paint 0 2",
        "see 0 1 no = 1, see 2 1 yes = 2, keep 1 = 0, go 3 = 1, sheet 0 0 4 = 1, sheet 1 1 3 = 1, sheet 2 2 5 = 1, lay 0 1 2 = 1, lay 1 0 2 = 1, lay 2 3 1 = 1",
        "tell 'parts2;$' = -17, read 3 0 0 1 = 0, torn = 1, fault = 1, tape 'twin1 1;'"};

    public static void main(String[] args) {
        Boundaries all = new Boundaries("BoundaryAnswersTest");
        cases(all);
        all.run();
    }

    static void cases(Boundaries b) {
        noSuch(b);
        whichFirst(b);
        refused(b);
        lastCall(b);
    }

    private static void noSuch(Boundaries b) {
        String words = "Answers: BAD -1 (a number is not as told, there is no such PART, SITTER, BOND, FORGER, IMAGE, SHEET)";
        b.of(WHERE, words, "no such PART",
                "tell 'parts 2;plain 0 0;' = 2, part 2 0 = BAD, layer 2 0 = BAD, paint 2 0 = BAD, scrape 2 = BAD",
                "worth 2 1 = BAD, when 2 0 = BAD, see 2 0 yes = BAD, see 0 2 yes = BAD");
        b.of(WHERE, words, "no such SITTER",
                "tell 'plain 0 0;' = 1, sitter 1 0 = BAD, paint 0 1 = BAD, alter 1 0 0 = BAD, like 0 1 = BAD, like 1 0 = BAD",
                "ahead 1 0 0 = BAD, when 0 1 = BAD, value 2 = BAD, share 1 0 = BAD");
        b.of(WHERE, words, "no such BOND, FORGER", "tell 'bond 0 1;forger;' = 2, bond 1 0 = BAD, forger 1 = BAD");
        b.of(WHERE, words, "no such IMAGE, SHEET",
                "keep 2 = BAD, back 2 = BAD, sheet 4 0 0 = BAD, lay 4 0 0 = BAD, read 4 0 0 0 = BAD");
        b.of(WHERE, "STATE -2 (as told)", "each of the three", "scrape 0 = -2, drift 0 1 0 = -2, back 0 = -2");
        b.of(WHERE, "FULL -3", "each of the four",
                "tell 'plain 0 0;' = 1, 4 times paint 0 0, paint 0 0 = -3, 6 times see 0 1 yes, see 0 1 yes = -3",
                "160 times feed 32, feed 32 = -3, 16 times go 60, go 60 = -3");
        b.of(WHERE, "NONE -4 (there is none)", "each of them",
                "rule 5 = -4, part 0 2 = -4, even = -4, mend 0 = -4, cheap 1 0 = -4, next 0 = -4, fits 1 = -4, ask 0 = -4",
                "count 3 = -4, tell 'plain 0 0;forger;' = 2, when 0 0 = -4, looks 0 = -4");
    }

    private static void whichFirst(Boundaries b) {
        String words = "the first that fits;";
        b.of(WHERE, words, "BAD ahead of STATE", "scrape 4 = BAD, drift 0 0 0 = BAD, drift 0 1 2 = BAD, back 2 = BAD");
        b.of(WHERE, words, "BAD ahead of FULL",
                "tell 'plain 0 0;' = 1, 4 times paint 0 0, paint 0 1 = BAD, 6 times see 0 1 yes, see 1 1 yes = BAD",
                "160 times feed 32, feed 128 = BAD, 16 times go 60, go 61 = BAD");
        b.of(WHERE, words, "BAD ahead of NONE",
                "rule 7 = BAD, part 4 2 = BAD, mend 2 = BAD, cheap 0 0 = BAD, next 2 = BAD, fits 2 = BAD, ask 2 = BAD",
                "count 7 = BAD, tell 'plain 0 0;forger;' = 2, when 0 1 = BAD, looks 2 = BAD");
        b.of(WHERE, words, "BAD ahead of SIZE, of NULL, of -20",
                "sheet 4 0 -1 = BAD, lay 4 0 0 = BAD, sheet 0 0 2 = 1, read 0 3 0 1 = BAD, read 0 0 0 1 = -20");
    }

    private static void rich(Boundaries b, String what, String... lines) {
        String[] all = new String[RICH.length + lines.length];
        System.arraycopy(RICH, 0, all, 0, RICH.length);
        System.arraycopy(lines, 0, all, RICH.length, lines.length);
        b.of(WHERE, "what is refused changes nothing (but THE TAPE, as told).", what, all);
    }

    private static void refused(Boundaries b) {
        rich(b, "THE TAPE", "feed -1 = BAD, feed 128 = BAD, end -1 = BAD, end 9 = BAD");
        rich(b, "a full TAPE", "152 times feed 32, feed 32 = FULL, feed 128 = BAD, end 161 = BAD");
        rich(b, "texts",
                "tell '$' = -18, tape 'parts 2;worth 0 9;plain 5 5 5;bond 0 1;forger;paint 1 0;judge', text = -66",
                "tell 'plain 0 0;paint 0 1;' = -30, count 2 = 0");
        rich(b, "what there is",
                "rule 7 = BAD, part 3 0 = BAD, part 0 3 = BAD, layer 0 4 = BAD, layer 3 0 = BAD, sitter 3 0 = BAD",
                "sitter 0 6 = BAD, bond 2 0 = BAD, bond 0 3 = BAD, forger 1 = BAD");
        rich(b, "paint, scrape",
                "paint 0 0 = FULL, paint 0 3 = BAD, paint 3 0 = BAD, paint 1 3 = BAD, paint -1 -1 = BAD, scrape 3 = BAD",
                "scrape -1 = BAD");
        rich(b, "scrape of a bare PART", "scrape 1 = 0, scrape 1 = 1, scrape 1 = 0, scrape 1 = STATE");
        rich(b, "alter, worth, like",
                "alter 0 0 4 = BAD, alter 0 1 6 = BAD, alter 0 2 10 = BAD, alter 0 3 128 = BAD, alter 0 4 0 = BAD",
                "alter 3 0 0 = BAD, alter 2 1 -1 = BAD, worth 0 10 = BAD, worth 3 0 = BAD, like 0 3 = BAD");
        rich(b, "days",
                "go 61 = BAD, go -1 = BAD, ahead 3 1 0 = BAD, ahead 0 61 0 = BAD, ahead 0 1 2 = BAD, when 3 0 = BAD",
                "when 0 3 = BAD");
        rich(b, "days at the end",
                "16 times go 60, go 40 = FULL, go 27 = 16, go 1 = FULL, go 60 = FULL, go 61 = BAD, go -1 = BAD");
        rich(b, "pictures",
                "mend 2 = BAD, cheap 0 0 = BAD, cheap 7 0 = BAD, cheap 1 2 = BAD, next 2 = BAD, value 8 = BAD, share 3 0 = BAD",
                "share 0 2 = BAD, looks 2 = BAD, alive 11 0 = BAD, mean 11 0 = BAD, mean 5 2 = BAD");
        rich(b, "SEEN",
                "see 0 3 yes = BAD, see 1 1 no = BAD, forget 3 = BAD, forget -1 = BAD, fits 2 = BAD, ask 2 = BAD",
                "4 times see 0 2 no, see 0 1 yes = FULL, see 3 0 yes = BAD, forget 7 = BAD");
        rich(b, "drift", "drift 5 0 0 = BAD, drift 5 61 0 = BAD, drift 5 1 2 = BAD");
        rich(b, "IMAGES", "keep 2 = BAD, keep -1 = BAD, back 2 = BAD, back -1 = BAD");
        rich(b, "SHEETS",
                "sheet 0 0 41 = BAD, sheet 0 1 -1 = -14, sheet 0 3 1 = BAD, sheet 4 0 1 = BAD, lay 0 4 1 = -12",
                "lay 0 -1 1 = -12, lay 3 0 1 = -11, lay 4 0 1 = BAD");
        rich(b, "read()",
                "read 0 0 0 21 = BAD, read 0 3 0 1 = BAD, read 4 0 0 1 = BAD, read 0 0 0 1 = -20, lay 2 0 3 = 1",
                "read 2 2 0 2 = -20, read 2 2 2 20 = -20, count 7 = BAD");
    }

    private static void lastCall(Boundaries b) {
        b.of("What it is", "An object is used for at most 512 calls after it has been made; what later calls answer is free.",
                "the 512th call",
                "far, 160 times feed 32, text = 0, 160 times feed 32, text = 0, 160 times feed 32, text = 0",
                "tell 'parts 2;plain 0 0 0;' = 2",
                "go 1 = 1, part 0 2 = 0, paint 1 0 = 1, scrape 1 = 0, keep 0 = 0, go 7 = 1, back 0 = 1");
    }
}
