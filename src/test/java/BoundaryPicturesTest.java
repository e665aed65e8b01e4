/** The boundaries of A PICTURE and of promises 21 to 24. */
public final class BoundaryPicturesTest {
    private static final String FIVE = "plain0 0;plain0 0;plain0 0;plain0 0;plain0 0;";

    public static void main(String[] args) {
        Boundaries all = new Boundaries("BoundaryPicturesTest");
        cases(all);
        all.run();
    }

    static void cases(Boundaries b) {
        pictures(b);
        many(b);
        mend(b);
        cheap(b);
        next(b);
    }

    private static void pictures(Boundaries b) {
        String where = "Terms";
        String fits = "A PICTURE tells of each PART a SITTER; it FITS, if two who are of PARTS that are bound are LIKE ever.";
        b.of(where, fits, "no BOND: each PICTURE", "tell 'parts 2;stranger 0 0;stranger 0 0;' = 3, many = 4");
        b.of(where, fits, "one BOND", "tell 'parts 2;stranger 0 0;stranger 0 0;bond 0 1;' = 4, many = 2");
        b.of(where, fits, "ever: of two BONDS both, not one",
                "tell 'parts 3;plain 0 0;plain 1 0;plain 2 0;bond 0 1;bond 1 2;' = 6, many = 17",
                "tell 'parts 3;plain 0 0;plain 1 0;plain 2 0;bond 0 1;' = 5, many = 21");
        b.of(where, fits, "five BONDS, the last of them, too",
                "tell 'parts6;stranger0 0;stranger0 0;bond0 1;bond1 2;bond2 3;bond3 4;bond4 5;' = 8, many = 2, fits 0 = 2",
                "tell 'parts6;stranger0 0;stranger0 0;bond0 1;bond1 2;bond2 3;bond3 4;' = 7, many = 4");
        b.of(where, fits, "one PART bound to two others",
                "tell 'parts 3;stranger 0 0;stranger 0 0;bond 0 2;bond 1 2;' = 5, many = 2, mend 0 = 3",
                "tell 'parts 3;plain 0 0;plain 1 0;plain 2 0;bond 1 2;bond 0 2;' = 6, many = 17");
        b.of(where, fits, "the greater PART told first",
                "tell 'parts 3;stranger 0 0;stranger 0 0;bond 2 0;' = 4, many = 4, alter 0 0 0 = 3, alter 1 0 0 = 3, many = 8");
        String numbers = "PICTURES are told by numbers to the base of SITTERS, PART 0's figure the highest.";
        b.of(where, numbers, "base 1", "tell 'parts 6;plain 0 0;' = 2, mend 1 = 0, fits 1 = 0, cheap 6 1 = 0");
        b.of(where, numbers, "base 2: PART 0's figure, the last PART's",
                "tell 'parts 3;plain 0 0;plain 0 0;paint 0 1;paint 1 0;paint 2 0;' = 6, mend 1 = 4",
                "scrape 0 = 1, paint 0 0 = 1, mend 1 = 0, paint 2 1 = 2, mend 1 = 1, paint 1 1 = 2, mend 1 = 3");
        b.of(where, numbers, "base 5, six PARTS: 15624",
                "tell 'parts6;" + FIVE + "paint0 4;paint1 4;paint2 4;paint3 4;paint4 4;paint5 4;' = 12, mend 1 = 15624, mend 0 = 0",
                "scrape 0 = 4, paint 0 0 = 1, mend 1 = 3124, scrape 5 = 4, paint 5 0 = 1, mend 1 = 3120");
    }

    private static void many(Boundaries b) {
        String where = "Promise 21";
        String words = "PICTURES that FIT: how many.";
        b.of(where, words, "nobody: none", "many = 0, tell 'parts 6;bond 0 1;' = 2, many = 0");
        b.of(where, words, "one SITTER: one",
                "tell 'plain 0 0;' = 1, many = 1, tell 'parts6;stranger0 0;bond0 1;bond1 2;bond2 3;bond3 4;bond4 5;' = 7",
                "many = 1");
        b.of(where, words, "two SITTERS, two PARTS: four at most, two at least",
                "tell 'parts 2;plain 0 0;plain 2 0;bond 0 1;' = 4, many = 2, alter 1 1 1 = 2, many = 4");
        b.of(where, words, "five SITTERS, six PARTS: 15625", "tell 'parts6;" + FIVE + "' = 6, many = 15625");
        b.of(where, words, "five SITTERS, six PARTS, five BONDS: 5",
                "tell 'parts6;" + FIVE + "bond0 1;bond1 2;bond2 3;bond3 4;bond4 5;' = 11, many = 15625",
                "alter 0 0 3 = 0, alter 1 0 3 = 0, alter 2 0 3 = 0, alter 3 0 3 = 0, many = 5");
        b.of(where, words, "who shows and what is SEEN have no say",
                "tell 'parts 2;plain 0 0;plain 5 0;bond 0 1;paint 0 0;paint 1 1;' = 6, many = 2, see 0 1 no = 1, many = 2",
                "fits 0 = 0");
    }

    private static void mend(Boundaries b) {
        String where = "Promise 22";
        String words = "The fewest PARTS that would have to show another one (bare ones, too), so that a PICTURE that FITS shows:"
                + " how many (what 0), the first such PICTURE (1).";
        b.of(where, words, "none: it FITS as it is",
                "tell 'parts 2;plain 0 0;plain 1 0;bond 0 1;paint 0 1;paint 1 0;' = 6, mend 0 = 0, mend 1 = 2");
        b.of(where, words, "one bare PART", "tell 'parts 2;plain 0 0;plain 1 0;paint 1 1;' = 4, mend 0 = 1, mend 1 = 1");
        b.of(where, words, "one bare PART, though no BOND and one SITTER",
                "tell 'plain 0 0;paint 0 0;paint 1 0;paint 2 0;' = 4, mend 0 = 1, mend 1 = 0, paint 3 0 = 1, mend 0 = 0");
        b.of(where, words, "all six bare", "tell 'parts6;" + FIVE + "' = 6, mend 0 = 6, mend 1 = 0");
        b.of(where, words, "all six would show another one but one",
                "tell 'parts6;stranger0 0;stranger0 0;bond0 1;bond1 2;bond2 3;bond3 4;bond4 5;paint5 1;' = 9, mend 0 = 5",
                "mend 1 = 63");
        b.of(where, words, "two PICTURES with as many: the first",
                "tell 'parts 2;stranger 0 0;stranger 0 0;bond 0 1;paint 0 1;paint 1 0;' = 6, mend 0 = 1, mend 1 = 0");
        b.of(where, words, "fewer ahead of first",
                "tell 'parts 3;stranger 0 0;stranger 0 0;bond 0 1;bond 1 2;paint 0 0;paint 1 1;paint 2 1;' = 8, mend 0 = 1",
                "mend 1 = 7");
        b.of(where, words, "who lies below does not show",
                "tell 'parts 2;plain 0 0;plain 0 0;paint 0 0;paint 0 1;paint 1 0;' = 6, mend 0 = 0, mend 1 = 2");
        b.of(where, words, "what is SEEN has no say",
                "tell 'parts 2;plain 0 0;plain 1 0;paint 0 1;paint 1 1;' = 5, see 0 1 no = 1, mend 0 = 0, mend 1 = 3",
                "see 0 1 yes = 2, mend 1 = 3");
        String none = "BAD; NONE: there is none.";
        b.of(where, none, "nobody", "mend 0 = NONE, mend 1 = NONE");
        b.of(where, none, "what -1 and 2",
                "tell 'plain 0 0;' = 1, mend -1 = BAD, mend 0 = 4, mend 1 = 0, mend 2 = BAD, mend MIN = BAD, mend MAX = BAD");
        b.of(where, none, "BAD ahead of NONE", "mend -1 = BAD, mend 2 = BAD");
    }

    private static void cheap(Boundaries b) {
        String where = "Promise 23";
        String words = "The cheapest PICTURE that FITS (ASKS of each times WORTH of the PART, summed) in which nobody has more than m PARTS (1 to 6):"
                + " what it costs (what 0), the first such (1).";
        String two = "tell 'plain 0 3;plain 0 1;' = 2";
        b.of(where, words, "m 0, 1, 6, 7",
                two,
                "cheap 0 0 = BAD, cheap 1 0 = NONE, cheap 6 0 = 4, cheap 7 0 = BAD, cheap -1 0 = BAD, cheap MIN 0 = BAD",
                "cheap MAX 0 = BAD");
        b.of(where, words, "just m PARTS, not one more",
                two,
                "cheap 2 0 = 8, cheap 2 1 = 3, cheap 3 0 = 6, cheap 3 1 = 7, cheap 4 0 = 4, cheap 4 1 = 15, cheap 5 0 = 4",
                "cheap 5 1 = 15");
        b.of(where, words, "m 1: as many SITTERS as PARTS",
                "tell 'parts5;" + FIVE + "' = 6, cheap 1 0 = 0, cheap 1 1 = 194, alter 0 2 9 = 0, cheap 1 0 = 9, cheap 1 1 = 194");
        b.of(where, words, "m 5 and 6: one SITTER, six PARTS",
                "tell 'parts 6;plain 0 2;' = 2, cheap 5 0 = NONE, cheap 6 0 = 12, cheap 6 1 = 0");
        b.of(where, words, "m 6: all six by one, though others are there",
                "tell 'parts 6;plain 0 2;plain 0 1;' = 3, cheap 6 0 = 6, cheap 6 1 = 63, cheap 5 0 = 7, cheap 5 1 = 31");
        b.of(where, words, "as dear as can be: 486",
                "tell 'parts6;plain0 9;worth0 9;worth1 9;worth2 9;worth3 9;worth4 9;worth5 9;' = 8, cheap 6 0 = 486",
                "cheap 6 1 = 0");
        b.of(where, words, "it costs nothing: who ASKS 0",
                "tell 'parts 2;plain 0 9;plain 0 0;' = 3, cheap 2 0 = 0, cheap 2 1 = 3");
        b.of(where, words, "it costs nothing: a WORTH of 0",
                "tell 'parts 2;plain 0 9;worth 0 0;worth 1 0;' = 4, cheap 2 0 = 0, cheap 2 1 = 0");
        b.of(where, words, "two that cost as much: the first",
                "tell 'parts 2;plain 0 3;plain 0 3;' = 3, cheap 1 0 = 6, cheap 1 1 = 1, cheap 2 1 = 0");
        b.of(where, words, "the cheapest does not FIT",
                "tell 'parts 2;plain 0 1;plain 5 2;bond 0 1;worth 0 3;' = 5, cheap 2 0 = 4, cheap 1 0 = NONE, alter 1 1 1 = 5",
                "cheap 1 0 = 5, cheap 1 1 = 1");
        b.of(where, words, "what is SEEN and who shows have no say",
                two,
                "see 0 1 no = 1, paint 0 0 = 1, cheap 4 0 = 4, cheap 4 1 = 15, see 0 1 yes = 2, cheap 4 1 = 15");
        String none = "BAD; NONE: there is none.";
        b.of(where, none, "one SITTER too few for m",
                "tell 'parts6;" + FIVE + "' = 6, cheap 1 0 = NONE, cheap 1 1 = NONE, cheap 2 0 = 0, cheap 2 1 = 162");
        b.of(where, none, "BONDS leave none",
                "tell 'parts 2;stranger 0 5;stranger 0 1;bond 0 1;' = 4, cheap 1 0 = NONE, cheap 1 1 = NONE, cheap 2 0 = 2",
                "cheap 2 1 = 3");
        b.of(where, none, "nobody", "cheap 1 0 = NONE, cheap 6 0 = NONE, cheap 6 1 = NONE");
        b.of(where, none, "what -1 and 2",
                two,
                "cheap 4 -1 = BAD, cheap 4 0 = 4, cheap 4 1 = 15, cheap 4 2 = BAD, cheap 4 MIN = BAD, cheap 4 MAX = BAD");
        b.of(where, none, "BAD ahead of NONE",
                "cheap 0 0 = BAD, cheap 7 0 = BAD, cheap 1 -1 = BAD, cheap 1 2 = BAD, cheap 1 0 = NONE");
    }

    private static void next(Boundaries b) {
        String where = "Promise 24";
        String words = "The SITTER and the PART (one of 4 LAYERS, too: the lowest goes first) that he is to sit for next so that most BONDS show LIKE ones then,"
                + " of several the first by PARTS, then SITTERS: 10 times the PART and the SITTER (what 0), how many BONDS (1).";
        b.of(where, words, "no BOND: the first of all", "tell 'plain 0 0;plain 0 0;' = 2, next 0 = 0, next 1 = 0");
        b.of(where, words, "no BOND can show LIKE ones: the first of all",
                "tell 'parts 2;plain 0 0;bond 0 1;' = 3, next 0 = 0, next 1 = 0");
        b.of(where, words, "the last PART, the last SITTER",
                "tell 'parts6;stranger0 0;stranger0 0;stranger0 0;stranger0 0;stranger0 0;bond5 4;paint4 4;' = 8, next 0 = 54",
                "next 1 = 1");
        b.of(where, words, "all five BONDS",
                "tell 'parts6;plain0 0;bond0 1;bond0 2;bond0 3;bond0 4;bond0 5;paint1 0;paint2 0;paint3 0;paint4 0;paint5 0;' = 12",
                "next 0 = 0, next 1 = 5");
        b.of(where, words, "four of five BONDS",
                "tell 'parts6;stranger0 0;stranger0 0;bond0 1;bond0 2;bond0 3;bond0 4;bond0 5;paint1 0;paint2 1;paint3 1;paint4 1;paint5 1;' = 13",
                "next 0 = 1, next 1 = 4");
        b.of(where, words, "a PART of 4 LAYERS",
                "tell 'parts2;plain0 0;plain3 0;bond0 1;paint0 0;paint0 0;paint0 0;paint0 0;paint1 1;' = 9, next 0 = 1",
                "next 1 = 1, part 0 1 = 4");
        b.of(where, words, "a PART of 4 LAYERS alone",
                "tell 'parts 3;stranger 0 0;stranger 0 0;bond 2 1;bond 2 0;paint 0 1;paint 1 1;' = 7, 4 times paint 2 0",
                "next 0 = 21, next 1 = 2");
        b.of(where, words, "of several the first by PARTS",
                "tell 'parts 2;plain 0 0;plain 5 0;bond 0 1;paint 0 0;paint 1 1;' = 6, next 0 = 1, next 1 = 1");
        b.of(where, words, "of several the first by SITTERS",
                "tell 'parts 2;plain 5 0;plain 0 0;plain 0 0;plain 0 0;bond 0 1;paint 1 2;' = 7, next 0 = 1, next 1 = 1");
        b.of(where, words, "one who keeps what shows",
                "tell 'parts 2;plain 0 0;plain 5 0;bond 0 1;paint 0 1;paint 1 1;' = 6, next 0 = 1, next 1 = 1");
        String none = "BAD; NONE: there is nobody.";
        b.of(where, none, "nobody", "next 0 = NONE, next 1 = NONE, tell 'bond 0 1;' = 1, next 0 = NONE, next 1 = NONE");
        b.of(where, none, "what -1 and 2",
                "tell 'plain 0 0;' = 1, next -1 = BAD, next 0 = 0, next 1 = 0, next 2 = BAD, next MIN = BAD, next MAX = BAD");
        b.of(where, none, "BAD ahead of NONE", "next -1 = BAD, next 2 = BAD");
    }
}
