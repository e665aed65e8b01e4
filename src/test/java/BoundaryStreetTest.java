import java.util.ArrayList;
import java.util.List;

/** The boundaries of what there is and what is changed: PARTS, SITTERS, LIKE, promises 6 to 16. */
public final class BoundaryStreetTest {
    private static final String TERMS = "Terms";
    private static final String FIVE = "tell 'parts6;plain0 0;twin1 2;shadow2 4;stranger3 6;plain5 9 0 6;' = 6";

    public static void main(String[] args) {
        Boundaries all = new Boundaries("BoundaryStreetTest");
        cases(all);
        all.run();
    }

    static void cases(Boundaries b) {
        partsInTerms(b);
        sittersInTerms(b);
        likeInTerms(b);
        rule(b);
        part(b);
        layer(b);
        sitter(b);
        bond(b);
        forger(b);
        paint(b);
        scrape(b);
        alter(b);
        worth(b);
        like(b);
    }

    private static void partsInTerms(Boundaries b) {
        String parts = "PARTS 0 on (2 to 6; 4 at first)";
        b.of(TERMS, parts, "two: 0 and 1",
                "tell 'parts 2;plain 0 0;' = 2, rule 0 = 2, part 0 0 = 1, part 1 0 = 1, part 2 0 = BAD, paint 1 0 = 1",
                "paint 2 0 = BAD");
        b.of(TERMS, parts, "six: 0 to 5",
                "tell 'parts 6;plain 0 0;' = 2, rule 0 = 6, part 5 0 = 1, part 6 0 = BAD, paint 5 0 = 1, paint 6 0 = BAD");
        b.of(TERMS, parts, "four at first", "rule 0 = 4, part 3 0 = 1, part 4 0 = BAD");
        String worth = "each of a WORTH (0 to 9; 1)";
        b.of(TERMS, worth, "1 at first, 0 and 9, neither -1 nor 10",
                "part 0 0 = 1, worth 0 0 = 1, worth 0 -1 = BAD, part 0 0 = 0, worth 0 9 = 0, worth 0 10 = BAD, part 0 0 = 9");
        b.of(TERMS, worth, "1 at first, where a text tells another one's",
                "tell 'worth 1 9;' = 1, part 0 0 = 1, part 1 0 = 9, part 3 0 = 1");
        String layers = "with LAYERS (0 to 4; 0 at first)";
        b.of(TERMS, layers, "0 at first, 4 at most, by paint()",
                "tell 'plain 0 0;' = 1, part 2 1 = 0, 4 times paint 2 0, part 2 1 = 4, paint 2 0 = FULL, part 2 1 = 4");
        b.of(TERMS, layers, "4 at most, by a text",
                "tell 'plain0 0;paint2 0;paint2 0;paint2 0;paint2 0;' = 5, part 2 1 = 4, paint 2 0 = FULL",
                "tell 'plain0 0;paint2 0;paint2 0;paint2 0;paint2 0;paint2 0;' = -60, fault = 5");
        b.of(TERMS, layers, "4 at most, by days",
                "tell 'parts 2;plain 0 0 0 1 2 3 4 5 6;' = 2, go 8 = 8, part 0 1 = 4, part 1 1 = 4, go 2 = 2, part 0 1 = 4",
                "part 1 1 = 4");
        b.of(TERMS, layers, "4 at most, by a SHEET",
                "tell 'parts 2;plain 0 0;' = 2, sheet 0 0 10 = 1, read 0 0 0 4 = 4, part 0 1 = 4, read 0 0 0 1 = -20",
                "part 0 1 = 4");
        b.of(TERMS, layers, "4 at most, and 0 again",
                "tell 'plain 0 0;' = 1, 4 times paint 0 0, 4 times scrape 0, part 0 1 = 0, scrape 0 = STATE, part 0 1 = 0");
        b.of(TERMS, "a SITTER each: THE TOP one shows.", "of one LAYER, of four, of none",
                "tell 'plain 0 0;twin 0 0;' = 2, part 0 2 = NONE, paint 0 1 = 1, part 0 2 = 1, paint 0 1 = 2, paint 0 1 = 3",
                "paint 0 0 = 4, part 0 2 = 0",
                "sitter 1 5 = 0, sitter 0 5 = 1");
    }

    private static void sittersInTerms(Boundaries b) {
        b.of(TERMS, "SITTERS (5 at most), by order", "five", FIVE, "rule 1 = 5, sitter 4 1 = 5, sitter 5 1 = BAD");
        b.of(TERMS, "each of a KIND (0 plain, 1 twin, 2 shadow, 3 stranger)", "0 to 3, neither -1 nor 4",
                FIVE,
                "sitter 0 0 = 0, sitter 1 0 = 1, sitter 2 0 = 2, sitter 3 0 = 3, alter 4 0 3 = 0, alter 4 0 4 = BAD",
                "alter 4 0 -1 = BAD, alter 4 0 0 = 3");
        b.of(TERMS, "with a MIEN (0 to 5: what he looks like)", "0 and 5, neither -1 nor 6", FIVE,
                "sitter 0 1 = 0, sitter 4 1 = 5, alter 0 1 6 = BAD, alter 0 1 -1 = BAD, alter 0 1 5 = 0, alter 0 1 0 = 5");
        b.of(TERMS, "ASKS (0 to 9)", "0 and 9, neither -1 nor 10", FIVE,
                "sitter 0 2 = 0, sitter 4 2 = 9, alter 0 2 10 = BAD, alter 0 2 -1 = BAD, alter 0 2 9 = 0, alter 0 2 0 = 9");
        b.of(TERMS, "FREE on some days of the week (bits; days 0 to 6).", "none and all, neither -1 nor 128",
                FIVE,
                "sitter 0 3 = 0, sitter 4 3 = 65, alter 0 3 128 = BAD, alter 0 3 -1 = BAD, alter 0 3 127 = 0",
                "alter 0 3 0 = 127");
        b.of(TERMS, "EARNED of each (0 at first).", "of all five", FIVE,
                "sitter 0 4 = 0, sitter 1 4 = 0, sitter 2 4 = 0, sitter 3 4 = 0, sitter 4 4 = 0");
        b.of(TERMS, "BONDS (5 at most): pairs of PARTS.", "none, and none behind the last",
                "bond 0 0 = BAD, tell 'bond 0 1;' = 1, bond 0 0 = 0, bond 1 0 = BAD");
        b.of(TERMS, "FORGERS (4 at most): SITTERS whom one did not know (bits).", "all five SITTERS, none",
                "tell 'plain0 0;plain0 0;plain0 0;plain0 0;plain0 0;forger 4 3 2 1 0;forger;' = 7, forger 0 = 31, forger 1 = 0",
                "forger 2 = BAD");
    }

    private static void likeInTerms(Boundaries b) {
        String self = "LIKE are a SITTER and himself";
        String kinds = "and two, if each FINDS the other one LIKE: plain: MIENS no more than 1 apart; twin: as plain, or both are twins;"
                + " shadow: MIENS alike; stranger: nobody.";
        b.of(TERMS, self, "of each KIND",
                "tell 'plain 0 0;twin 0 0;shadow 0 0;stranger 0 0;' = 4, like 0 0 = 1, like 1 1 = 1, like 2 2 = 1",
                "like 3 3 = 1");
        likes(b, kinds, "plain and plain: 0 and 1 apart, not 2", 0, 0, 1, 1, 0, 0);
        likes(b, kinds, "plain and twin: 0 and 1 apart, not 2", 0, 1, 1, 1, 0, 0);
        likes(b, kinds, "twin and twin: however far apart", 1, 1, 1, 1, 1, 1);
        likes(b, kinds, "shadow and shadow: 0 apart, not 1", 2, 2, 1, 0, 0, 0);
        likes(b, kinds, "shadow and plain: each must find the other one", 2, 0, 1, 0, 0, 0);
        likes(b, kinds, "shadow and twin: each must find the other one", 2, 1, 1, 0, 0, 0);
        likes(b, kinds, "stranger and plain: 0 apart, not even so", 3, 0, 0, 0, 0, 0);
        likes(b, kinds, "stranger and twin: 0 apart, not even so", 3, 1, 0, 0, 0, 0);
        likes(b, kinds, "stranger and shadow: 0 apart, not even so", 3, 2, 0, 0, 0, 0);
        likes(b, kinds, "stranger and stranger: 0 apart, not even so", 3, 3, 0, 0, 0, 0);
        b.of(TERMS, kinds, "MIENS do not go round: 0 and 5 are 5 apart",
                "tell 'plain 0 0;plain 5 0;plain 4 0;' = 3, like 0 1 = 0, like 1 0 = 0, like 1 2 = 1, like 2 1 = 1");
    }

    /** LIKE by how far MIENS are apart (0, 1, 2, 5), of two of two KINDS, both ways. */
    private static void likes(Boundaries b, String words, String what, int kind, int other, int... due) {
        List<String> lines = new ArrayList<>();
        lines.add("tell 'plain 0 0;plain 0 0;' = 2, alter 0 0 " + kind + " = 0, alter 1 0 " + other + " = 0");
        int[] apart = {0, 1, 2, 5};
        for (int i = 0; i < 4; i++) {
            int before = i == 0 ? 0 : apart[i - 1];
            lines.add("alter 1 1 " + apart[i] + " = " + before + ", like 0 1 = " + due[i] + ", like 1 0 = " + due[i]);
        }
        b.of(TERMS, words, what, lines.toArray(new String[0]));
    }

    private static void rule(Boundaries b) {
        String where = "Promise 6";
        String words = "0 PARTS, 1 SITTERS, 2 BONDS, 3 FORGERS, 4 DAY, 5 THE LAST (NONE), 6 PARTS that are bare (bits). BAD.";
        b.of(where, words, "-1, 0, 6, 7",
                "rule -1 = BAD, rule 0 = 4, rule 6 = 15, rule 7 = BAD, rule MIN = BAD, rule MAX = BAD");
        b.of(where, words, "each at its most",
                "tell 'parts6;plain0 0 0;plain0 0;plain0 0;plain0 0;plain0 0 6;bond0 1;bond0 1;bond0 1;bond0 1;bond0 1;forger;forger;forger;forger;' = 15",
                "rule 0 = 6, rule 1 = 5, rule 2 = 5, rule 3 = 4, 16 times go 60, go 39 = 10, rule 4 = 999, rule 5 = 0",
                "rule 6 = 0");
        b.of(where, words, "THE LAST: nobody, SITTER 0, SITTER 4",
                "tell 'plain0 0 0;plain0 0;plain0 0;plain0 0;plain0 0 1;' = 5, rule 5 = NONE, go 1 = 1, rule 5 = 0, go 1 = 1",
                "rule 5 = 4");
        b.of(where, words, "PARTS that are bare: all six, one, none",
                "tell 'parts 6;plain 0 0;' = 2, rule 6 = 63, paint 5 0 = 1, rule 6 = 31, paint 0 0 = 1, rule 6 = 30",
                "paint 1 0 = 1, paint 2 0 = 1, paint 3 0 = 1, rule 6 = 16",
                "paint 4 0 = 1, rule 6 = 0, scrape 5 = 0, rule 6 = 32");
    }

    private static void part(Boundaries b) {
        String where = "Promise 7";
        String words = "Of a PART: 0 WORTH, 1 LAYERS, 2 who shows (NONE). BAD.";
        b.of(where, words, "PARTS -1, 0, the last, the one behind",
                "part -1 0 = BAD, part 0 0 = 1, part 3 0 = 1, part 4 0 = BAD, part MIN 0 = BAD, part MAX 0 = BAD");
        b.of(where, words, "what -1, 0, 2, 3",
                "part 0 -1 = BAD, part 0 0 = 1, part 0 1 = 0, part 0 2 = NONE, part 0 3 = BAD, part 0 MIN = BAD",
                "part 0 MAX = BAD");
        b.of(where, words, "bare, and not",
                "tell 'parts 2;plain 0 0;paint 1 0;' = 3, part 0 2 = NONE, part 1 2 = 0, scrape 1 = 0, part 1 2 = NONE",
                "part 1 1 = 0");
        b.of(where, words, "BAD ahead of NONE", "part 4 2 = BAD, part -1 2 = BAD, part 0 2 = NONE");
        b.of(where, words, "a WORTH and LAYERS at their most",
                "tell 'parts6;plain0 0;worth5 9;paint5 0;paint5 0;paint5 0;paint5 0;' = 7, part 5 0 = 9, part 5 1 = 4",
                "part 5 2 = 0, part 6 0 = BAD");
    }

    private static void layer(Boundaries b) {
        String where = "Promise 8";
        String words = "LAYER k of a PART (0 the lowest). BAD.";
        String four = "tell 'parts 2;plain 0 0;twin 0 0;shadow 0 0;paint 1 2;paint 1 0;paint 1 0;paint 1 1;' = 8";
        b.of(where, words, "0 the lowest, 3 the highest of four",
                four,
                "layer 1 0 = 2, layer 1 1 = 0, layer 1 2 = 0, layer 1 3 = 1");
        b.of(where, words, "-1 and 4 of four", four, "layer 1 -1 = BAD, layer 1 4 = BAD, layer 1 MIN = BAD, layer 1 MAX = BAD");
        b.of(where, words, "of a bare PART", four, "layer 0 0 = BAD, layer 0 -1 = BAD, layer 0 1 = BAD");
        b.of(where, words, "one behind the highest, when one is scraped off",
                four,
                "scrape 1 = 1, layer 1 2 = 0, layer 1 3 = BAD");
        b.of(where, words, "of a PART that there is not",
                four,
                "layer -1 0 = BAD, layer 2 0 = BAD, layer MIN 0 = BAD, layer MAX 0 = BAD");
    }

    private static void sitter(Boundaries b) {
        String where = "Promise 9";
        String words = "Of a SITTER: 0 KIND, 1 MIEN, 2 ASKS, 3 FREE (bits), 4 EARNED, 5 PARTS that show him (bits). BAD.";
        b.of(where, words, "SITTERS -1, 0, the last, the one behind",
                FIVE,
                "sitter -1 0 = BAD, sitter 0 0 = 0, sitter 4 2 = 9, sitter 5 0 = BAD, sitter MIN 0 = BAD, sitter MAX 0 = BAD");
        b.of(where, words, "what -1, 0, 5, 6",
                FIVE,
                "sitter 4 -1 = BAD, sitter 4 0 = 0, sitter 4 5 = 0, sitter 4 6 = BAD, sitter 4 MIN = BAD, sitter 4 MAX = BAD");
        b.of(where, words, "nobody", "sitter 0 0 = BAD, sitter -1 0 = BAD");
        b.of(where, words, "PARTS that show him: none, all six, not where he lies below",
                FIVE,
                "paint 0 4 = 1, paint 1 4 = 1, paint 2 4 = 1, paint 3 4 = 1, paint 4 4 = 1, paint 5 4 = 1, sitter 4 5 = 63",
                "sitter 3 5 = 0",
                "paint 0 3 = 2, sitter 4 5 = 62, sitter 3 5 = 1, paint 5 0 = 2, sitter 4 5 = 30, scrape 5 = 0, sitter 4 5 = 62");
        b.of(where, words, "FREE on day 0 and on day 6", FIVE, "sitter 4 3 = 65, sitter 3 3 = 0");
    }

    private static void bond(Boundaries b) {
        String where = "Promise 10";
        String words = "Of a BOND: 0, 1 its PARTS, 2 whether its two show LIKE ones (1, 0: also where one is bare). BAD.";
        String two = "tell 'parts 6;plain 0 0;plain 1 0;plain 2 0;bond 0 5;bond 4 3;' = 6";
        b.of(where, words, "BONDS -1, 0, the last, the one behind",
                two,
                "bond -1 0 = BAD, bond 0 0 = 0, bond 1 0 = 4, bond 2 0 = BAD, bond MIN 0 = BAD, bond MAX 0 = BAD");
        b.of(where, words, "what -1, 0, 2, 3",
                two,
                "bond 0 -1 = BAD, bond 0 0 = 0, bond 0 1 = 5, bond 0 2 = 0, bond 0 3 = BAD, bond 0 MIN = BAD, bond 0 MAX = BAD");
        b.of(where, words, "no BOND", "bond 0 0 = BAD, bond 0 2 = BAD");
        b.of(where, words, "its PARTS as told, not the lesser first", two, "bond 1 0 = 4, bond 1 1 = 3");
        b.of(where, words, "both bare, the second bare, the first bare, neither",
                two,
                "bond 0 2 = 0, paint 0 0 = 1, bond 0 2 = 0, scrape 0 = 0, paint 5 0 = 1, bond 0 2 = 0, paint 0 0 = 1",
                "bond 0 2 = 1, count 5 = 1");
        b.of(where, words, "MIENS 1 and 2 apart",
                two,
                "paint 0 0 = 1, paint 5 1 = 1, bond 0 2 = 1, paint 5 2 = 2, bond 0 2 = 0");
        b.of(where, words, "those who show, not those below",
                two,
                "paint 0 0 = 1, paint 5 2 = 1, paint 5 0 = 2, bond 0 2 = 1, paint 0 2 = 2, bond 0 2 = 0");
    }

    private static void forger(Boundaries b) {
        String where = "Promise 11";
        String words = "SITTERS whom a FORGER did not know (bits). BAD.";
        b.of(where, words, "FORGERS -1, 0, the last, the one behind",
                "tell 'plain 0 0;forger 0;forger;forger;forger 0;' = 5",
                "forger -1 = BAD, forger 0 = 1, forger 1 = 0, forger 3 = 1, forger 4 = BAD, forger MIN = BAD, forger MAX = BAD");
        b.of(where, words, "no FORGER", "forger 0 = BAD, forger -1 = BAD");
        b.of(where, words, "one FORGER", "tell 'plain 0 0;forger 0;' = 2, forger 0 = 1, forger 1 = BAD");
    }

    private static void paint(Boundaries b) {
        String where = "Promise 12";
        String more = "A SITTER sits for a PART: a LAYER more: how many.";
        String words = "BAD; FULL: it has 4.";
        String two = "tell 'parts 2;plain 0 0;twin 0 0;' = 3";
        b.of(where, more, "the first, the fourth",
                two,
                "paint 1 0 = 1, paint 1 1 = 2, paint 1 1 = 3, paint 1 0 = 4, layer 1 0 = 0, layer 1 1 = 1, layer 1 2 = 1",
                "layer 1 3 = 0, part 0 1 = 0");
        b.of(where, more, "the same one twice", two, "paint 0 0 = 1, paint 0 0 = 2, layer 0 1 = 0");
        b.of(where, words, "PARTS -1, 0, the last, the one behind",
                two,
                "paint -1 0 = BAD, paint 0 0 = 1, paint 1 0 = 1, paint 2 0 = BAD, paint MIN 0 = BAD, paint MAX 0 = BAD");
        b.of(where, words, "SITTERS -1, 0, the last, the one behind",
                two,
                "paint 0 -1 = BAD, paint 0 0 = 1, paint 0 1 = 2, paint 0 2 = BAD, paint 0 MIN = BAD, paint 0 MAX = BAD");
        b.of(where, words, "nobody", "paint 0 0 = BAD, paint 3 0 = BAD");
        b.of(where, words, "the 5th LAYER",
                two,
                "4 times paint 0 1, paint 0 0 = FULL, part 0 1 = 4, part 0 2 = 1, paint 1 0 = 1");
        b.of(where, words, "BAD ahead of FULL: a full PART, a SITTER that there is not",
                two,
                "4 times paint 0 1, paint 0 2 = BAD, paint 0 -1 = BAD, paint 0 1 = FULL");
        b.of(where, words, "a LAYER scraped off makes room",
                two,
                "4 times paint 0 1, scrape 0 = 1, paint 0 0 = 4, paint 0 0 = FULL");
        b.of(where, more, "free or not, and he is not THE LAST by it",
                two,
                "go 1 = 0, paint 0 1 = 1, rule 5 = NONE, rule 4 = 1, sitter 1 4 = 0");
    }

    private static void scrape(Boundaries b) {
        String where = "Promise 13";
        String off = "THE TOP of a PART is scraped off: whose it was.";
        String words = "BAD; STATE: it is bare.";
        String two = "tell 'parts 2;plain 0 0;twin 0 0;paint 1 0;paint 1 1;' = 5";
        b.of(where, off, "the highest first, the lowest last",
                two,
                "scrape 1 = 1, part 1 2 = 0, scrape 1 = 0, part 1 2 = NONE, rule 6 = 3");
        b.of(where, off, "the fourth of four", two, "paint 1 1 = 3, paint 1 0 = 4, scrape 1 = 0, scrape 1 = 1, part 1 1 = 2");
        b.of(where, words, "bare at first, bare again",
                two,
                "scrape 0 = STATE, scrape 1 = 1, scrape 1 = 0, scrape 1 = STATE, paint 1 0 = 1, scrape 1 = 0");
        b.of(where, words, "PARTS -1 and the one behind the last",
                two,
                "scrape -1 = BAD, scrape 2 = BAD, scrape MIN = BAD, scrape MAX = BAD");
        b.of(where, words, "BAD ahead of STATE", "scrape 4 = BAD, scrape -1 = BAD, scrape 3 = STATE");
    }

    private static void alter(Boundaries b) {
        String where = "Promise 14";
        String words = "KIND, MIEN, ASKS, FREE (what 0 to 3) of a SITTER becomes v: what it was. BAD.";
        int[] most = {3, 5, 9, 127};
        for (int what = 0; what < 4; what++) {
            String call = "alter 4 " + what + " ";
            b.of(where, words, "what " + what + ": -1, 0, " + most[what] + ", " + (most[what] + 1),
                    "tell 'plain0 0;plain0 0;plain0 0;plain0 0;plain0 0;' = 5",
                    call + "-1 = BAD, " + call + most[what] + " = 0, sitter 4 " + what + " = " + most[what] + ", " + call + (most[what] + 1) + " = BAD",
                    call + "MIN = BAD, " + call + "MAX = BAD, sitter 4 " + what + " = " + most[what] + ", " + call + "0 = " + most[what] + ", sitter 4 " + what + " = 0",
                    "sitter 3 " + what + " = 0");
        }
        b.of(where, words, "what -1 and 4: EARNED is none of them",
                FIVE,
                "alter 0 -1 0 = BAD, alter 0 4 0 = BAD, alter 0 5 0 = BAD, alter 0 MIN 0 = BAD, alter 0 MAX 0 = BAD");
        b.of(where, words, "SITTERS -1, 0, the last, the one behind",
                FIVE,
                "alter -1 0 0 = BAD, alter 0 0 0 = 0, alter 4 1 5 = 5, alter 5 0 0 = BAD, alter MIN 0 0 = BAD",
                "alter MAX 0 0 = BAD");
        b.of(where, words, "to what it is already", FIVE, "alter 4 3 65 = 65, sitter 4 3 = 65");
        b.of(where, words, "nobody", "alter 0 0 0 = BAD");
    }

    private static void worth(Boundaries b) {
        String where = "Promise 15";
        String words = "WORTH of a PART becomes v: what it was. BAD.";
        b.of(where, words, "-1, 0, 9, 10",
                "worth 3 -1 = BAD, worth 3 0 = 1, worth 3 9 = 0, worth 3 10 = BAD, part 3 0 = 9, worth 3 MIN = BAD",
                "worth 3 MAX = BAD, part 2 0 = 1");
        b.of(where, words, "PARTS -1, 0, the last, the one behind",
                "worth -1 1 = BAD, worth 0 2 = 1, worth 3 2 = 1, worth 4 1 = BAD, worth MIN 1 = BAD, worth MAX 1 = BAD",
                "count 6 = 6");
        b.of(where, words, "the sixth PART", "tell 'parts 6;' = 1, worth 5 9 = 1, worth 6 9 = BAD, worth 5 0 = 9, count 6 = 5");
    }

    private static void like(Boundaries b) {
        String where = "Promise 16";
        String words = "Whether two SITTERS are LIKE (1, 0). BAD.";
        b.of(where, words, "SITTERS -1, 0, the last, the one behind, on both sides", FIVE,
                "like -1 0 = BAD, like 0 -1 = BAD, like 0 4 = 0, like 4 0 = 0, like 4 4 = 1, like 5 0 = BAD, like 0 5 = BAD");
        b.of(where, words, "BAD, though alike",
                FIVE,
                "like 5 5 = BAD, like -1 -1 = BAD, like MIN MIN = BAD, like MAX MAX = BAD, like MIN 0 = BAD, like 0 MAX = BAD");
        b.of(where, words, "nobody", "like 0 0 = BAD");
        b.of(where, words, "as altered",
                "tell 'plain 0 0;plain 2 0;' = 2, like 0 1 = 0, alter 1 1 1 = 2, like 0 1 = 1, alter 0 0 3 = 0, like 0 1 = 0",
                "like 0 0 = 1");
    }
}
