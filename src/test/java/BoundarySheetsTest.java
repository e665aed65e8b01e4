import java.util.ArrayList;
import java.util.List;

/** The boundaries of SHEETS and of promises 35 to 41. */
public final class BoundarySheetsTest {
    private static final String TWO = "tell 'parts 6;plain 0 0;plain 0 0;' = 3";

    public static void main(String[] args) {
        Boundaries all = new Boundaries("BoundarySheetsTest");
        cases(all);
        all.run();
    }

    static void cases(Boundaries b) {
        sheetsInTerms(b);
        faultsInTerms(b);
        keep(b);
        back(b);
        sheet(b);
        lay(b);
        read(b);
        readTorn(b);
        readRefused(b);
        torn(b);
        count(b);
    }

    private static void sheetsInTerms(Boundaries b) {
        String where = "Terms";
        String words = "SHEETS 0 to 3 are rows of BYTES (lane 0), SHORTS (1), INTS (2), all with a sign, with 0 to 40 CELLS, or nothing (at first).";
        b.of(where, words, "SHEETS -1, 0, 3, 4",
                "sheet -1 0 1 = BAD, sheet 0 0 1 = 1, sheet 3 0 1 = 1, sheet 4 0 1 = BAD, lay 3 0 0 = 1, lay 4 0 0 = BAD",
                "lay -1 0 0 = BAD");
        b.of(where, words, "lanes -1, 0, 2, 3", "sheet 0 -1 1 = BAD, sheet 0 0 1 = 1, sheet 0 2 1 = 1, sheet 0 3 1 = BAD");
        b.of(where, words, "0 CELLS are not nothing",
                "sheet 0 0 0 = 1, count 3 = 0, lay 0 0 0 = -12, lay 1 0 0 = -11, read 0 0 0 1 = 0, torn = 2, read 1 0 0 1 = 0",
                "torn = 1");
        b.of(where, words, "40 CELLS, not 41",
                "sheet 0 2 40 = 1, lay 0 39 1 = 1, lay 0 40 1 = -12, sheet 0 2 41 = BAD, count 3 = 40");
        b.of(where, words, "each SHEET by itself",
                TWO,
                "sheet 0 0 2 = 1, sheet 1 1 2 = 1, sheet 2 2 2 = 1, lay 1 0 5 = 1, lay 2 1 1 = 1",
                "read 0 0 0 1 = 1, read 1 1 0 1 = 1, read 2 2 0 1 = 1, part 0 1 = 2, part 5 1 = 1, layer 0 0 = 0",
                "layer 0 1 = 1, read 3 0 0 1 = 0, torn = 1");
        b.of(where, words, "a BYTE: 127 stays, 128 goes round, 256 is 0",
                TWO,
                "sheet 0 0 2 = 1, lay 0 1 127 = 1, read 0 0 0 1 = -20, lay 0 1 128 = 1, read 0 0 0 1 = -20",
                "lay 0 1 255 = 1, read 0 0 0 1 = -20, lay 0 1 256 = 1, read 0 0 0 1 = 1, part 0 2 = 0, lay 0 1 257 = 1",
                "read 0 0 0 1 = 1, part 0 2 = 1");
        b.of(where, words, "a BYTE below 0: -1, -128, -255, -256",
                TWO,
                "sheet 0 0 2 = 1, lay 0 1 -1 = 1, read 0 0 0 1 = -20, lay 0 1 -128 = 1, read 0 0 0 1 = -20",
                "lay 0 1 -255 = 1, read 0 0 0 1 = 1, part 0 2 = 1, lay 0 1 -256 = 1, read 0 0 0 1 = 1, part 0 2 = 0");
        b.of(where, words, "a SHORT: 256 stays, 32768 goes round, 65536 is 0",
                TWO,
                "sheet 0 1 2 = 1, lay 0 1 256 = 1, read 0 1 0 1 = -20, lay 0 1 32768 = 1, read 0 1 0 1 = -20",
                "lay 0 1 65535 = 1, read 0 1 0 1 = -20, lay 0 1 65536 = 1, read 0 1 0 1 = 1, part 0 2 = 0, lay 0 1 65537 = 1",
                "read 0 1 0 1 = 1, part 0 2 = 1");
        b.of(where, words, "a SHORT below 0: -255, -65535, -65536",
                TWO,
                "sheet 0 1 2 = 1, lay 0 1 -255 = 1, read 0 1 0 1 = -20",
                "lay 0 1 -65535 = 1, read 0 1 0 1 = 1, part 0 2 = 1, lay 0 1 -65536 = 1, read 0 1 0 1 = 1, part 0 2 = 0");
        b.of(where, words, "an INT: 65536, MIN, MAX stay",
                TWO,
                "sheet 0 2 2 = 1, lay 0 1 65536 = 1, read 0 2 0 1 = -20, lay 0 1 MIN = 1, read 0 2 0 1 = -20",
                "lay 0 1 MAX = 1, read 0 2 0 1 = -20, lay 0 1 -1 = 1, read 0 2 0 1 = -20, lay 0 1 1 = 1, read 0 2 0 1 = 1",
                "part 0 2 = 1");
        b.of(where, words, "the ends of the ints as a BYTE and as a SHORT",
                TWO,
                "sheet 0 0 2 = 1, lay 0 1 MIN = 1, read 0 0 0 1 = 1, part 0 2 = 0, lay 0 1 MAX = 1, read 0 0 0 1 = -20",
                "sheet 0 1 2 = 1, lay 0 1 MIN = 1, read 0 1 0 1 = 1, part 0 2 = 0, lay 0 1 MAX = 1, read 0 1 0 1 = -20");
    }

    private static void faultsInTerms(Boundaries b) {
        String where = "Terms";
        String words = "A FAULT is what the machine finds: 1 NULL (nothing), 2 INDEX, 3 CAST (another lane), 4 SIZE (below 0).";
        b.of(where, words, "1: of each SHEET that is nothing",
                "lay 0 0 0 = -11, lay 3 0 0 = -11, read 0 0 0 1 = 0, torn = 1, read 3 0 0 1 = 0, torn = 1");
        b.of(where, words, "2: one below the first, one behind the last",
                "sheet 1 0 3 = 1, lay 1 -1 0 = -12, lay 1 0 0 = 1, lay 1 2 0 = 1, lay 1 3 0 = -12");
        b.of(where, words, "3: each lane as each other one",
                "sheet 0 0 0 = 1, sheet 1 1 0 = 1, sheet 2 2 0 = 1",
                "read 0 1 0 1 = 0, torn = 3, read 0 0 0 1 = 0, torn = 2, read 0 2 0 1 = 0, torn = 3, read 1 0 0 1 = 0",
                "torn = 3, read 1 1 0 1 = 0, torn = 2",
                "read 1 2 0 1 = 0, torn = 3, read 2 0 0 1 = 0, torn = 3, read 2 2 0 1 = 0, torn = 2, read 2 1 0 1 = 0",
                "torn = 3");
        b.of(where, words, "4: -1, not 0", "sheet 0 0 -1 = -14, sheet 0 0 0 = 1");
        b.of(where, words, "1 ahead of 2", "lay 0 -1 0 = -11, lay 0 40 0 = -11, read 0 0 -1 1 = 0, torn = 1");
        b.of(where, words, "1 ahead of 3: nothing is of no lane",
                "read 0 0 0 1 = 0, torn = 1, read 0 1 0 1 = 0, torn = 1, read 0 2 0 1 = 0, torn = 1");
        b.of(where, words, "3 ahead of 2", "sheet 0 0 2 = 1, read 0 1 -1 1 = 0, torn = 3, read 0 2 2 1 = 0, torn = 3");
    }

    private static void keep(Boundaries b) {
        String where = "Promise 35";
        String words = "IMAGE k (0, 1) is PARTS (WORTHS, LAYERS), SITTERS (all of them), DAY, THE LAST: whether there was one (1, 0). BAD.";
        b.of(where, words, "IMAGES -1, 0, 1, 2",
                "keep -1 = BAD, keep 0 = 0, keep 1 = 0, keep 2 = BAD, keep MIN = BAD, keep MAX = BAD, count 1 = 2");
        b.of(where, words, "there was none, there was one: each by itself",
                "keep 1 = 0, keep 1 = 1, count 1 = 1, back 0 = STATE, keep 0 = 0, keep 0 = 1, keep 1 = 1, count 1 = 2");
        b.of(where, words, "of a new object",
                "keep 0 = 0, worth 0 9 = 1, go 3 = 0, back 0 = 0, count 6 = 4, rule 4 = 0, rule 5 = NONE, rule 6 = 15");
        b.of(where, words, "WORTHS, of the first and the sixth PART",
                TWO,
                "worth 0 0 = 1, worth 5 9 = 1, keep 0 = 0, worth 0 4 = 0, worth 5 3 = 9, back 0 = 0, part 0 0 = 0",
                "part 5 0 = 9");
        b.of(where, words, "LAYERS: none, four",
                TWO,
                "paint 5 1 = 1, paint 5 0 = 2, paint 5 0 = 3, paint 5 1 = 4, keep 0 = 0, 4 times scrape 5",
                "paint 5 0 = 1, paint 5 1 = 2, paint 5 1 = 3, paint 5 0 = 4, paint 0 0 = 1, back 0 = 0",
                "part 0 1 = 0, part 5 1 = 4, layer 5 0 = 1, layer 5 1 = 0, layer 5 2 = 0, layer 5 3 = 1");
        b.of(where, words, "SITTERS, the fifth, too: all that he is",
                "tell 'parts6;plain0 0;plain0 0;plain0 0;plain0 0;twin3 4 0;' = 6, go 2 = 1, sitter 4 4 = 2, keep 1 = 0",
                "alter 4 0 3 = 1, alter 4 1 5 = 3, alter 4 2 9 = 4, alter 4 3 127 = 1, alter 0 1 2 = 0, go 1 = 1",
                "sitter 4 4 = 4",
                "back 1 = 2, sitter 4 0 = 1, sitter 4 1 = 3, sitter 4 2 = 4, sitter 4 3 = 1, sitter 4 4 = 2, sitter 0 1 = 0",
                "sitter 4 5 = 1");
        b.of(where, words, "DAY and THE LAST: NONE, the first, another",
                "tell 'plain 0 0 0;plain 0 0 1;' = 2, keep 0 = 0, go 1 = 1, keep 1 = 0, go 1 = 1, rule 5 = 1, back 1 = 1",
                "rule 5 = 0, rule 4 = 1, back 0 = 0, rule 5 = NONE, rule 4 = 0");
        b.of(where, words, "kept once more: the later one",
                TWO,
                "keep 0 = 0, paint 0 0 = 1, keep 0 = 1, paint 0 1 = 2, back 0 = 0, part 0 1 = 1, part 0 2 = 0");
        b.of(where, words, "not SEEN, not SHEETS, not THE TAPE, no FAULT",
                TWO,
                "keep 0 = 0, see 0 1 no = 1, sheet 0 0 3 = 1, read 1 0 0 1 = 0, tell '$' = -10, tape 'ab'",
                "back 0 = 0, count 0 = 1, fits 0 = 32, count 3 = 3, count 2 = 2, torn = 1, fault = 1, forget 0 = 1, back 0 = 0",
                "count 0 = 0");
    }

    private static void back(Boundaries b) {
        String where = "Promise 36";
        String words = "All is as IMAGE k: DAY. BAD; STATE: there is none.";
        b.of(where, words, "IMAGES -1, 0, 1, 2",
                "keep 0 = 0, keep 1 = 0, back -1 = BAD, back 0 = 0, back 1 = 0, back 2 = BAD, back MIN = BAD, back MAX = BAD");
        b.of(where, words, "none, one of the two", "back 0 = STATE, back 1 = STATE, keep 1 = 0, back 0 = STATE, back 1 = 0");
        b.of(where, words, "BAD ahead of STATE", "back -1 = BAD, back 2 = BAD, back 0 = STATE");
        b.of(where, words, "none behind a text that is taken; still there behind one that is not",
                "keep 0 = 0, tell '$' = -10, back 0 = 0, text = 0, back 0 = STATE");
        b.of(where, words, "DAY 0 and DAY 999",
                "keep 0 = 0, 16 times go 60, go 39 = 0, keep 1 = 0, go 1 = FULL, back 0 = 0, rule 4 = 0, go 1 = 0",
                "back 1 = 999, rule 4 = 999, go 1 = FULL, back 0 = 0, go 60 = 0");
        b.of(where, words, "twice: the IMAGE stays as it is",
                TWO,
                "keep 0 = 0, paint 0 0 = 1, back 0 = 0, part 0 1 = 0, paint 0 1 = 1, worth 0 0 = 1, back 0 = 0, part 0 1 = 0",
                "part 0 0 = 1");
        b.of(where, words, "the two IMAGES are two",
                TWO,
                "keep 0 = 0, worth 0 5 = 1, keep 1 = 0, worth 0 7 = 5, back 0 = 0, part 0 0 = 1, back 1 = 0, part 0 0 = 5",
                "back 0 = 0, part 0 0 = 1");
        b.of(where, words, "what follows goes on from there",
                "tell 'plain 0 0 0 1;plain 0 0 0 1;' = 2, keep 0 = 0, go 2 = 2, back 0 = 0, go 1 = 1, rule 5 = 0, part 0 1 = 1",
                "part 1 1 = 0, sitter 0 4 = 1");
    }

    private static void sheet(Boundaries b) {
        String where = "Promise 37";
        String words = "A SHEET is a new row of CELLS 0: 1. BAD: also n above 40; -14 (SIZE): n below 0.";
        b.of(where, words, "n -1, 0, 40, 41",
                "sheet 0 1 -1 = -14, count 3 = NONE, sheet 0 1 0 = 1, count 3 = 0, sheet 0 1 40 = 1, count 3 = 40",
                "sheet 0 1 41 = BAD, count 3 = 40");
        b.of(where, words, "n far away", "sheet 0 1 MIN = -14, sheet 0 1 MAX = BAD, sheet 0 1 -40 = -14, count 3 = NONE");
        b.of(where, words, "SHEETS -1, 0, 3, 4",
                "sheet -1 1 1 = BAD, sheet 0 1 1 = 1, sheet 3 1 1 = 1, sheet 4 1 1 = BAD, sheet MIN 1 1 = BAD",
                "sheet MAX 1 1 = BAD");
        b.of(where, words, "lanes -1, 0, 2, 3",
                "sheet 0 -1 1 = BAD, sheet 0 0 1 = 1, sheet 0 2 1 = 1, sheet 0 3 1 = BAD, sheet 0 MIN 1 = BAD",
                "sheet 0 MAX 1 = BAD");
        b.of(where, words, "BAD ahead of SIZE",
                "sheet -1 0 -1 = BAD, sheet 4 0 -1 = BAD, sheet 0 -1 -1 = BAD, sheet 0 3 -1 = BAD, sheet 3 2 -1 = -14");
        b.of(where, words, "one that is refused leaves the row, its lane and its CELLS",
                TWO,
                "sheet 0 1 2 = 1, lay 0 0 5 = 1, lay 0 1 1 = 1, sheet 0 0 -1 = -14, sheet 0 0 41 = BAD, sheet 0 3 1 = BAD",
                "count 3 = 2, read 0 1 0 1 = 1, part 5 2 = 1");
        b.of(where, words, "a new row: CELLS 0 again",
                TWO,
                "sheet 0 1 4 = 1, lay 0 1 1 = 1, lay 0 3 9 = 1, sheet 0 1 4 = 1, read 0 1 0 2 = 2, layer 0 0 = 0",
                "layer 0 1 = 0");
        b.of(where, words, "a new row: the last two of 40 CELLS, too",
                TWO,
                "sheet 0 1 40 = 1, lay 0 38 5 = 1, lay 0 39 1 = 1, sheet 0 1 40 = 1, read 0 1 38 1 = 1, layer 0 0 = 0",
                "part 5 1 = 0");
        b.of(where, words, "a new row: of another lane, of fewer CELLS, of more",
                TWO,
                "sheet 0 1 4 = 1, lay 0 3 9 = 1, sheet 0 2 2 = 1, count 3 = 2, read 0 1 0 1 = 0, torn = 3, lay 0 2 1 = -12",
                "sheet 0 0 40 = 1, read 0 0 2 1 = 1, layer 0 0 = 0, count 3 = 40");
    }

    private static void lay(Boundaries b) {
        String where = "Promise 38";
        String words = "CELL i of a SHEET becomes v (its lowest bits): 1. BAD: k; -10 less the FAULT: NULL, INDEX.";
        b.of(where, words, "SHEETS -1, 0, 3, 4",
                "sheet 0 0 1 = 1, sheet 3 0 1 = 1, lay -1 0 0 = BAD, lay 0 0 0 = 1, lay 3 0 0 = 1, lay 4 0 0 = BAD",
                "lay MIN 0 0 = BAD, lay MAX 0 0 = BAD");
        b.of(where, words, "CELLS -1, 0, the last, the one behind",
                "sheet 2 0 3 = 1, lay 2 -1 0 = -12, lay 2 0 0 = 1, lay 2 2 0 = 1, lay 2 3 0 = -12, lay 2 MIN 0 = -12",
                "lay 2 MAX 0 = -12");
        b.of(where, words, "CELLS 39 and 40 of 40", "sheet 2 1 40 = 1, lay 2 39 7 = 1, lay 2 40 7 = -12");
        b.of(where, words, "of 0 CELLS none", "sheet 2 2 0 = 1, lay 2 0 0 = -12, lay 2 -1 0 = -12");
        b.of(where, words, "nothing: NULL, whichever CELL",
                "lay 0 0 0 = -11, lay 0 -1 0 = -11, lay 0 40 0 = -11, lay 0 MAX MAX = -11");
        b.of(where, words, "BAD ahead of NULL and of INDEX", "lay 4 0 0 = BAD, lay -1 -1 0 = BAD, lay 4 40 0 = BAD");
        b.of(where, words, "each v is taken",
                "sheet 0 0 1 = 1, lay 0 0 MIN = 1, lay 0 0 MAX = 1, lay 0 0 -1 = 1, lay 0 0 128 = 1");
        b.of(where, words, "that CELL, not the one beside it",
                TWO,
                "sheet 0 0 4 = 1, lay 0 1 1 = 1, read 0 0 0 2 = 2, layer 0 0 = 1, layer 0 1 = 0, lay 0 2 5 = 1",
                "read 0 0 0 2 = 2, layer 0 2 = 1, layer 5 0 = 0");
    }

    /** Twenty pairs in 40 CELLS: PARTS 0 to 4, four times each, SITTER 0. */
    private static String twenty() {
        List<String> lines = new ArrayList<>();
        lines.add("sheet 0 0 40 = 1");
        for (int i = 0; i < 20; i++) {
            if (i % 5 > 0) {
                lines.add("lay 0 " + 2 * i + " " + i % 5 + " = 1");
            }
        }
        return String.join(", ", lines);
    }

    private static void read(Boundaries b) {
        String where = "Promise 39";
        String words = "n (0 to 20) times a PART, a SITTER are read of a SHEET taken as of a lane, two CELLS each from CELL f on,"
                + " one behind another as by paint(): how many sat.";
        b.of(where, words, "n -1, 0, 1",
                TWO,
                twenty(),
                "read 0 0 0 -1 = BAD, read 0 0 0 0 = 0, count 4 = 0, read 0 0 0 1 = 1, count 4 = 1, read 0 0 0 MIN = BAD");
        b.of(where, words, "n 20 and 21",
                TWO,
                twenty(),
                "read 0 0 0 21 = BAD, count 4 = 0, read 0 0 0 20 = 20, torn = 0, count 4 = 20, rule 6 = 32",
                "read 0 0 0 MAX = BAD");
        b.of(where, words, "a PART ahead of a SITTER",
                TWO,
                "sheet 0 0 2 = 1, lay 0 0 5 = 1, lay 0 1 1 = 1, read 0 0 0 1 = 1, part 5 2 = 1, part 1 1 = 0");
        b.of(where, words, "one behind another: the later one shows",
                TWO,
                "sheet 0 0 4 = 1, lay 0 1 1 = 1, read 0 0 0 2 = 2, layer 0 0 = 1, layer 0 1 = 0, part 0 2 = 0");
        b.of(where, words, "from CELL 0, 1, the last but one",
                TWO,
                "sheet 0 0 4 = 1, lay 0 1 1 = 1, lay 0 2 0 = 1, lay 0 3 1 = 1, read 0 0 1 1 = 1, part 1 2 = 0",
                "read 0 0 2 1 = 1, part 0 2 = 1, read 0 0 0 1 = 1, part 0 1 = 2");
        b.of(where, words, "the 4th LAYER of a PART", TWO, "sheet 0 0 8 = 1, read 0 0 0 4 = 4, part 0 1 = 4");
        b.of(where, words, "he is not THE LAST, no DAY goes",
                TWO,
                "sheet 0 0 2 = 1, read 0 0 0 1 = 1, rule 5 = NONE, rule 4 = 0, sitter 0 4 = 0");
        b.of(where, "BAD: k, lane, n;", "SHEETS -1, 0, 3, 4",
                "read -1 0 0 0 = BAD, read 0 0 0 0 = 0, read 3 0 0 0 = 0, read 4 0 0 0 = BAD, read MIN 0 0 0 = BAD",
                "read MAX 0 0 0 = BAD");
        b.of(where, "BAD: k, lane, n;", "lanes -1, 0, 2, 3",
                "read 0 -1 0 0 = BAD, read 0 0 0 0 = 0, read 0 2 0 0 = 0, read 0 3 0 0 = BAD, read 0 MIN 0 0 = BAD",
                "read 0 MAX 0 0 = BAD");
        b.of(where, "BAD: k, lane, n;", "f is never BAD",
                "sheet 0 0 2 = 1, read 0 0 -1 1 = 0, read 0 0 MAX 1 = 0, read 0 0 MIN 1 = 0, read 0 0 MIN 0 = 0");
        b.of(where, "BAD: k, lane, n;", "BAD ahead of a FAULT, which it leaves",
                "read 0 0 0 1 = 0, torn = 1, read 4 0 0 1 = BAD, read 0 3 0 1 = BAD, read 0 0 0 21 = BAD, torn = 1");
    }

    private static void readTorn(Boundaries b) {
        String where = "Promise 39";
        String words = "What the machine refuses: those that were whole ahead did (its FAULT is asked by torn(); of n 0: 0, no FAULT, whatever the SHEET is).";
        b.of(where, words, "an even number of CELLS: the pair behind the end",
                TWO,
                "sheet 0 0 4 = 1, read 0 0 0 2 = 2, torn = 0, read 0 0 0 3 = 2, torn = 2, count 4 = 4");
        b.of(where, words, "an odd number of CELLS: half a pair at the end",
                TWO,
                "sheet 0 0 5 = 1, lay 0 4 9 = 1, read 0 0 0 3 = 2, torn = 2, count 4 = 2, read 0 0 4 1 = 0, torn = 2",
                "count 4 = 2");
        b.of(where, words, "all 20 but the last half pair",
                TWO,
                "sheet 0 0 40 = 1, read 0 0 1 0 = 0, read 0 0 39 1 = 0, torn = 2, read 0 0 38 1 = 1, torn = 0",
                "read 0 0 38 2 = 1, torn = 2, read 0 0 37 2 = 1, torn = 2, count 4 = 3");
        b.of(where, words, "19 of 20 are whole",
                TWO,
                "sheet 0 0 40 = 1, lay 0 2 0 = 1, lay 0 11 1 = 1, lay 0 13 1 = 1, lay 0 15 1 = 1, lay 0 17 1 = 1",
                "lay 0 19 2 = 1, lay 0 21 2 = 1, lay 0 23 2 = 1, lay 0 25 2 = 1",
                "lay 0 27 3 = 1, lay 0 29 3 = 1, lay 0 31 3 = 1, lay 0 33 3 = 1, lay 0 35 4 = 1, lay 0 37 4 = 1, lay 0 3 4 = 1",
                "read 0 0 1 20 = 19, torn = 2, count 4 = 19, part 4 1 = 3");
        b.of(where, words, "f -1, -2, the size, far away",
                TWO,
                "sheet 0 0 4 = 1, read 0 0 -1 1 = 0, torn = 2, read 0 0 -2 2 = 0, torn = 2, read 0 0 4 1 = 0, torn = 2",
                "read 0 0 3 1 = 0, torn = 2",
                "read 0 0 MAX 20 = 0, torn = 2, read 0 0 MIN 20 = 0, torn = 2, count 4 = 0");
        b.of(where, words, "f just below the greatest int",
                TWO,
                "sheet 0 0 40 = 1, read 0 0 2147483646 20 = 0, torn = 2, read 0 0 2147483610 20 = 0, torn = 2, count 4 = 0");
        b.of(where, words, "of 0 CELLS none", TWO, "sheet 0 0 0 = 1, read 0 0 0 1 = 0, torn = 2, read 0 0 0 20 = 0, torn = 2");
        b.of(where, words, "NULL and CAST: none did",
                TWO,
                "sheet 0 0 4 = 1, read 0 1 0 2 = 0, torn = 3, read 1 0 0 2 = 0, torn = 1, count 4 = 0");
        b.of(where, words, "n 0 of nothing, of another lane, behind the end",
                "read 0 0 0 1 = 0, torn = 1, read 0 0 0 0 = 0, torn = 0, sheet 0 0 0 = 1, read 0 1 0 1 = 0, torn = 3",
                "read 0 1 0 0 = 0, torn = 0",
                "read 0 0 9 1 = 0, torn = 2, read 0 0 9 0 = 0, torn = 0, read 0 0 -9 0 = 0, torn = 0");
    }

    private static void readRefused(Boundaries b) {
        String where = "Promise 39";
        String words = "-20 less i (0 on): the i-th, whole, is refused by paint() (in whichever way): then none did; the first met.";
        b.of(where, words, "the 0th: no such PART, no such SITTER",
                TWO,
                "sheet 0 0 4 = 1, lay 0 0 6 = 1, read 0 0 0 2 = -20, lay 0 0 -1 = 1, read 0 0 0 2 = -20, lay 0 0 5 = 1",
                "read 0 0 0 2 = 2",
                "lay 0 1 2 = 1, read 0 0 0 2 = -20, lay 0 1 -1 = 1, read 0 0 0 2 = -20, lay 0 1 1 = 1, read 0 0 0 2 = 2",
                "count 4 = 4");
        b.of(where, words, "the 19th of 20",
                TWO,
                twenty(),
                "lay 0 38 6 = 1, read 0 0 0 20 = -39, count 4 = 0, rule 6 = 63, read 0 0 0 19 = 19, count 4 = 19");
        b.of(where, words, "FULL ahead of all", TWO, "4 times paint 0 1, sheet 0 0 2 = 1, read 0 0 0 1 = -20, part 0 1 = 4");
        b.of(where, words, "FULL by those ahead in the same call",
                TWO,
                "sheet 0 0 10 = 1, read 0 0 0 5 = -24, count 4 = 0, read 0 0 0 4 = 4, read 0 0 0 1 = -20, part 0 1 = 4");
        b.of(where, words, "FULL by the last one that is read",
                TWO,
                "paint 0 1 = 1, sheet 0 0 8 = 1, read 0 0 0 4 = -23, part 0 1 = 1, part 0 2 = 1, read 0 0 0 3 = 3",
                "part 0 2 = 0");
        b.of(where, words, "the first of two",
                TWO,
                "sheet 0 0 8 = 1, lay 0 2 9 = 1, lay 0 7 9 = 1, read 0 0 0 4 = -21, lay 0 2 0 = 1, read 0 0 0 4 = -23",
                "read 0 0 0 3 = 3");
        b.of(where, words, "refused ahead of the end of the row",
                TWO,
                "sheet 0 0 4 = 1, lay 0 2 9 = 1, read 0 0 0 3 = -21, count 4 = 0, torn = 0, lay 0 2 0 = 1, read 0 0 0 3 = 2",
                "torn = 2");
        b.of(where, words, "half a pair is not refused by paint()",
                TWO,
                "sheet 0 0 3 = 1, lay 0 2 9 = 1, read 0 0 0 2 = 1, torn = 2, count 4 = 1");
        b.of(where, words, "nobody", "sheet 0 0 2 = 1, read 0 0 0 1 = -20, rule 6 = 15");
    }

    private static void torn(Boundaries b) {
        String where = "Promise 40";
        String words = "The FAULT of the latest read() that answered 0 or more; 0 (one that is refused leaves it).";
        b.of(where, words, "0 ahead of all", "torn = 0, lay 0 0 0 = -11, torn = 0, sheet 0 0 -1 = -14, torn = 0");
        b.of(where, words, "0 behind one without a FAULT",
                TWO,
                "read 0 0 0 1 = 0, torn = 1, sheet 0 0 2 = 1, torn = 1, read 0 0 0 1 = 1, torn = 0");
        b.of(where, words, "of one that answered more than 0",
                TWO,
                "sheet 0 0 2 = 1, read 0 0 0 2 = 1, torn = 2, read 0 0 0 1 = 1, torn = 0");
        b.of(where, words, "the latest of two",
                TWO,
                "sheet 0 0 2 = 1, read 0 1 0 1 = 0, torn = 3, read 0 0 2 1 = 0, torn = 2, read 1 0 0 1 = 0, torn = 1");
        b.of(where, words, "one that is refused leaves it: BAD, -20",
                TWO,
                "sheet 0 0 2 = 1, lay 0 1 9 = 1, read 1 0 0 1 = 0, torn = 1, read 0 0 0 21 = BAD, torn = 1, read 0 0 0 1 = -20",
                "torn = 1",
                "read 0 0 0 0 = 0, torn = 0, read 0 0 0 1 = -20, torn = 0, read 9 0 0 1 = BAD, torn = 0");
        b.of(where, words, "one that is refused ahead of the end of the row leaves it",
                TWO,
                "sheet 0 0 3 = 1, lay 0 0 9 = 1, read 0 0 0 2 = -20, torn = 0");
    }

    private static void count(Boundaries b) {
        String where = "Promise 41";
        String words = "How many: 0 SEEN, 1 IMAGES, 2 bytes on THE TAPE, 3 CELLS of SHEET 0 (NONE: nothing), 4 LAYERS in all,"
                + " 5 BONDS that show LIKE ones, 6 all WORTHS. BAD.";
        b.of(where, words, "what -1, 0, 6, 7",
                "count -1 = BAD, count 0 = 0, count 6 = 4, count 7 = BAD, count MIN = BAD, count MAX = BAD");
        b.of(where, words, "SEEN: 0, 6", "count 0 = 0, 6 times see 0 1 yes, count 0 = 6, see 0 1 yes = FULL, count 0 = 6");
        b.of(where, words, "IMAGES: 0, 1, 2, either one first",
                "count 1 = 0, keep 1 = 0, count 1 = 1, keep 0 = 0, count 1 = 2, text = 0, count 1 = 0, keep 0 = 0, count 1 = 1");
        b.of(where, words, "bytes on THE TAPE: 0, 160",
                "count 2 = 0, 160 times feed 0, count 2 = 160, feed 0 = FULL, count 2 = 160, end 0 = 160, count 2 = 0");
        b.of(where, words, "CELLS of SHEET 0: nothing, 0, 40; not those of SHEET 1",
                "sheet 1 0 7 = 1, count 3 = NONE, sheet 0 0 0 = 1, count 3 = 0, sheet 0 0 40 = 1, count 3 = 40");
        b.of(where, words, "LAYERS in all: 0, 24",
                "tell 'parts 6;plain 0 0 0 1 2 3 4 5 6;' = 2, count 4 = 0, go 60 = 60, count 4 = 24");
        b.of(where, words, "LAYERS of fewer PARTS than there were",
                "tell 'parts 6;plain 0 0;paint 5 0;' = 3, count 4 = 1, tell 'parts 2;plain 0 0;paint 1 0;' = 3, count 4 = 1",
                "count 6 = 2");
        b.of(where, words, "BONDS that show LIKE ones: none, all five",
                "tell 'parts6;plain0 0 0 1 2 3 4 5;bond0 1;bond1 2;bond2 3;bond3 4;bond4 5;' = 7, count 5 = 0, go 5 = 5",
                "count 5 = 4, go 1 = 1, count 5 = 5");
        b.of(where, words, "BONDS that show LIKE ones: one pair told twice",
                "tell 'parts 2;plain 0 0;bond 0 1;bond 0 1;bond 1 0;paint 0 0;paint 1 0;' = 7, count 5 = 3, scrape 1 = 0",
                "count 5 = 0");
        b.of(where, words, "all WORTHS: 0, 54",
                "tell 'parts6;worth0 9;worth1 9;worth2 9;worth3 9;worth4 9;worth5 9;' = 7, count 6 = 54",
                "tell 'parts6;worth0 0;worth1 0;worth2 0;worth3 0;worth4 0;worth5 0;' = 7, count 6 = 0");
        b.of(where, words, "WORTHS of two PARTS", "tell 'parts 2;worth 1 9;' = 2, count 6 = 10");
    }
}
