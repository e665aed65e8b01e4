/** The boundaries of VALUE, SHARE, fractions and of promises 25 to 29. */
public final class BoundarySharesTest {
    private static final String FIVE = "plain0 0;plain0 0;plain0 0;plain0 0;plain0 0;";

    public static void main(String[] args) {
        Boundaries all = new Boundaries("BoundarySharesTest");
        cases(all);
        all.run();
    }

    static void cases(Boundaries b) {
        valueInTerms(b);
        shareInTerms(b);
        fractions(b);
        value(b);
        share(b);
        looks(b);
        alive(b);
        mean(b);
    }

    private static void valueInTerms(Boundaries b) {
        String where = "Terms";
        String words = "VALUE of some SITTERS: WORTHS of PARTS that show one of them, and of each BOND of which both PARTS show ones of them"
                + " who are LIKE the lesser WORTH of the two.";
        b.of(where, words, "none of them, one, both",
                "tell 'parts 2;plain 0 0;plain 1 0;bond 0 1;worth 0 5;worth 1 3;paint 0 0;paint 1 1;' = 8",
                "value 0 = 0, value 1 = 5, value 2 = 3, value 3 = 11");
        b.of(where, words, "both who are not LIKE",
                "tell 'parts 2;plain 0 0;plain 2 0;bond 0 1;worth 0 5;worth 1 3;paint 0 0;paint 1 1;' = 8, value 3 = 8",
                "alter 1 1 1 = 2, value 3 = 11");
        b.of(where, words, "both PARTS by one",
                "tell 'parts 2;stranger 0 0;bond 0 1;worth 0 5;worth 1 3;paint 0 0;paint 1 0;' = 7, value 1 = 11");
        b.of(where, words, "one PART bare, both bare",
                "tell 'parts 2;plain 0 0;bond 0 1;worth 0 5;worth 1 3;paint 1 0;' = 6, value 1 = 3, scrape 1 = 0, value 1 = 0");
        b.of(where, words, "the lesser WORTH: the first one's, the second one's, alike, 0",
                "tell 'parts 2;plain 0 0;bond 0 1;worth 0 2;worth 1 3;paint 0 0;paint 1 0;' = 7, value 1 = 7",
                "worth 0 4 = 2, value 1 = 10, worth 0 3 = 4, value 1 = 9, worth 0 0 = 3, value 1 = 3, worth 1 0 = 3",
                "value 1 = 0");
        b.of(where, words, "five BONDS, one pair told twice",
                "tell 'parts6;plain0 0;bond0 1;bond1 0;bond2 3;bond3 4;bond4 5;paint0 0;paint1 0;paint2 0;paint3 0;paint4 0;paint5 0;' = 13",
                "value 1 = 11");
        b.of(where, words, "who lies below is not shown",
                "tell 'parts 2;plain 0 0;twin 5 0;bond 0 1;paint 0 0;paint 1 0;paint 1 1;' = 7, value 1 = 1, value 2 = 1",
                "value 3 = 2, scrape 1 = 1, value 1 = 3");
        b.of(where, words, "as much as can be: 99",
                "tell 'parts6;plain0 0 0 1 2 3 4 5;bond0 1;bond1 2;bond2 3;bond3 4;bond4 5;' = 7, go 6 = 6",
                "worth 0 9 = 1, worth 1 9 = 1, worth 2 9 = 1, worth 3 9 = 1, worth 4 9 = 1, worth 5 9 = 1, value 1 = 99");
    }

    private static void shareInTerms(Boundaries b) {
        String where = "Terms";
        String words = "SHARE of one: they come one behind another, in each order alike: the mean of what VALUE grows by him.";
        b.of(where, words, "one alone has all",
                "tell 'parts 2;plain 0 0;bond 0 1;paint 0 0;paint 1 0;' = 5, share 0 0 = 3, share 0 1 = 1, value 1 = 3");
        b.of(where, words, "who shows nowhere has nothing",
                "tell 'parts 2;plain 0 0;plain 0 0;bond 0 1;paint 0 0;paint 1 0;' = 6, share 1 0 = 0, share 1 1 = 1",
                "share 0 0 = 3");
        // Of two orders he who comes second has the BOND's 3: 5 or 8, 3 or 6.
        b.of(where, words, "two orders",
                "tell 'parts 2;plain 0 0;plain 1 0;bond 0 1;worth 0 5;worth 1 3;paint 0 0;paint 1 1;' = 8",
                "share 0 0 = 13, share 0 1 = 2, share 1 0 = 9, share 1 1 = 2");
        // PART 0's one has half of each of five BONDS of 1.
        b.of(where, words, "five SITTERS, 120 orders",
                "tell 'parts6;" + FIVE + "bond0 1;bond0 2;bond0 3;bond0 4;bond0 5;paint0 0;paint1 1;paint2 2;' = 14",
                "paint 3 3 = 1, paint 4 4 = 1, paint 5 4 = 1, share 0 0 = 7, share 0 1 = 2, share 1 0 = 3, share 1 1 = 2",
                "share 4 0 = 3, share 4 1 = 1, value 31 = 11");
    }

    private static void fractions(Boundaries b) {
        String where = "Terms";
        String words = "Fractions are in lowest terms, told as two numbers, first the numerator, then the denominator, which is above 0 (0 is 0 by 1).";
        String two = "tell 'parts 2;plain 0 0;plain 0 0;bond 0 1;paint 0 0;paint 1 1;' = 6";
        b.of(where, words, "0 is 0 by 1: SHARE", "tell 'plain 0 0;' = 1, share 0 0 = 0, share 0 1 = 1");
        b.of(where, words, "0 is 0 by 1: all die", two, "alive 10 0 = 0, alive 10 1 = 1, mean 10 0 = 0, mean 10 1 = 1");
        b.of(where, words, "0 is 0 by 1: no WORTH",
                "tell 'plain 0 0;' = 1, mean 5 0 = 0, mean 5 1 = 1, mean 0 0 = 0, mean 0 1 = 1");
        b.of(where, words, "a whole number is by 1",
                two,
                "alive 0 0 = 1, alive 0 1 = 1, mean 0 0 = 3, mean 0 1 = 1, worth 0 2 = 1, worth 1 2 = 1, share 0 0 = 3",
                "share 0 1 = 1");
        b.of(where, words, "lowest terms of 100ths: 64, 25, 81, 75",
                two,
                "alive 2 0 = 16, alive 2 1 = 25, alive 5 0 = 1, alive 5 1 = 4, alive 1 0 = 81, alive 1 1 = 100",
                "mean 5 0 = 5, mean 5 1 = 4");
        b.of(where, words, "lowest terms of halves", two, "share 0 0 = 3, share 0 1 = 2");
        b.of(where, words, "lowest terms of 100000ths: 32 and 7776 of them",
                "tell 'parts5;" + FIVE + "paint0 0;paint1 1;paint2 2;paint3 3;paint4 4;' = 11",
                "alive 8 0 = 1, alive 8 1 = 3125, alive 4 0 = 243, alive 4 1 = 3125, alive 1 0 = 59049, alive 1 1 = 100000",
                "alive 9 0 = 1, alive 9 1 = 100000");
    }

    private static void value(Boundaries b) {
        String where = "Promise 25";
        String words = "VALUE of some SITTERS (bits; 0, too). BAD.";
        b.of(where, words, "-1, 0, all five, one bit more",
                "tell 'parts5;" + FIVE + "paint0 0;paint1 1;paint2 2;paint3 3;paint4 4;' = 11",
                "value -1 = BAD, value 0 = 0, value 31 = 5, value 32 = BAD, value 33 = BAD, value 63 = BAD, value MIN = BAD",
                "value MAX = BAD");
        b.of(where, words, "one SITTER: 1 and 2",
                "tell 'plain 0 0;paint 3 0;' = 2, value 0 = 0, value 1 = 1, value 2 = BAD, value 3 = BAD");
        b.of(where, words, "the 5th alone, all but him",
                "tell 'parts5;" + FIVE + "paint0 0;paint4 4;worth4 7;' = 9, value 16 = 7, value 15 = 1");
        b.of(where, words, "nobody", "value 0 = 0, value 1 = BAD, value -1 = BAD");
    }

    private static void share(Boundaries b) {
        String where = "Promise 26";
        String words = "SHARE of a SITTER: 0, 1. BAD.";
        String two = "tell 'plain 0 0;plain 0 0;paint 3 1;' = 3";
        b.of(where, words, "SITTERS -1, 0, the last, the one behind",
                two,
                "share -1 0 = BAD, share 0 0 = 0, share 1 0 = 1, share 2 0 = BAD, share MIN 0 = BAD, share MAX 0 = BAD",
                "share 2 1 = BAD");
        b.of(where, words, "what -1, 0, 1, 2",
                two,
                "share 1 -1 = BAD, share 1 0 = 1, share 1 1 = 1, share 1 2 = BAD, share 1 MIN = BAD, share 1 MAX = BAD");
        b.of(where, words, "nobody", "share 0 0 = BAD, share 0 1 = BAD");
    }

    private static void looks(Boundaries b) {
        String where = "Promise 27";
        String words = "The fewest PARTS to look at so that of each FORGER one is among them that shows somebody whom he did not know:"
                + " how many (what 0), the least set of so many (1; bits).";
        b.of(where, words, "no FORGER: none",
                "looks 0 = 0, looks 1 = 0, tell 'plain 0 0;paint 0 0;' = 2, looks 0 = 0, looks 1 = 0");
        b.of(where, words, "one FORGER: PART 0, PART 5",
                "tell 'parts 6;plain 0 0;forger 0;paint 5 0;' = 4, looks 0 = 1, looks 1 = 32, paint 0 0 = 1, looks 0 = 1",
                "looks 1 = 1");
        b.of(where, words, "four FORGERS: four PARTS, the highest",
                "tell 'parts6;plain0 0;plain0 0;plain0 0;plain0 0;forger0;forger1;forger2;forger3;paint2 0;paint3 1;paint4 2;paint5 3;' = 13",
                "looks 0 = 4, looks 1 = 60, paint 0 3 = 1, looks 1 = 29");
        b.of(where, words, "four FORGERS: one PART",
                "tell 'plain0 0;plain0 0;forger0 1;forger1;forger1;forger1 0;paint0 0;paint3 1;' = 8, looks 0 = 1, looks 1 = 8");
        b.of(where, words, "fewer ahead of least",
                "tell 'plain 0 0;plain 0 0;plain 0 0;forger 0 2;forger 1 2;paint 0 0;paint 1 1;paint 3 2;' = 8, looks 0 = 1",
                "looks 1 = 8");
        b.of(where, words, "of as many the least set",
                "tell 'plain 0 0;plain 0 0;forger 0;forger 1;paint 0 1;paint 1 0;paint 2 0;paint 3 1;' = 8, looks 0 = 2",
                "looks 1 = 3, scrape 0 = 1, looks 1 = 10");
        b.of(where, words, "a shows, b lies below",
                "tell 'plain 0 0;plain 0 0;forger 0;paint 0 0;paint 0 1;paint 2 0;' = 6, looks 0 = 1, looks 1 = 4");
        String none = "BAD; NONE: by none.";
        b.of(where, none, "a FORGER who knew all", "tell 'plain 0 0;forger;paint 0 0;' = 3, looks 0 = NONE, looks 1 = NONE");
        b.of(where, none, "whom he did not know shows nowhere",
                "tell 'plain 0 0;plain 0 0;forger 1;paint 0 1;paint 0 0;' = 5, looks 0 = NONE, looks 1 = NONE, scrape 0 = 0",
                "looks 0 = 1");
        b.of(where, none, "all PARTS bare", "tell 'plain 0 0;forger 0;' = 2, looks 0 = NONE, looks 1 = NONE");
        b.of(where, none, "the last of four FORGERS by none",
                "tell 'plain 0 0;forger 0;forger 0;forger 0;forger;paint 1 0;' = 6, looks 0 = NONE, looks 1 = NONE");
        b.of(where, none, "what -1 and 2",
                "tell 'plain 0 0;forger 0;paint 1 0;' = 3, looks -1 = BAD, looks 0 = 1, looks 1 = 2, looks 2 = BAD",
                "looks MIN = BAD, looks MAX = BAD");
        b.of(where, none, "BAD ahead of NONE", "tell 'forger;' = 1, looks 0 = NONE, looks -1 = BAD, looks 2 = BAD");
    }

    private static void alive(Boundaries b) {
        String where = "Promise 28";
        String words = "Each SITTER dies by v out of ten (0 to 10), by himself: that all who show live: 0, 1. BAD.";
        String one = "tell 'plain 0 0;plain 0 0;paint 0 1;' = 3";
        b.of(where, words, "v -1, 0, 10, 11",
                one,
                "alive -1 0 = BAD, alive 0 0 = 1, alive 0 1 = 1, alive 10 0 = 0, alive 10 1 = 1, alive 11 0 = BAD",
                "alive 11 1 = BAD, alive MIN 0 = BAD, alive MAX 0 = BAD");
        b.of(where, words, "v 1 and 9", one, "alive 1 0 = 9, alive 1 1 = 10, alive 9 0 = 1, alive 9 1 = 10");
        b.of(where, words, "what -1, 0, 1, 2",
                one,
                "alive 3 -1 = BAD, alive 3 0 = 7, alive 3 1 = 10, alive 3 2 = BAD, alive 3 MIN = BAD, alive 3 MAX = BAD");
        b.of(where, words, "none shows: all who show live",
                "alive 10 0 = 1, alive 10 1 = 1, alive 0 0 = 1, tell 'plain 0 0;' = 1, alive 10 0 = 1, alive 10 1 = 1");
        b.of(where, words, "who shows twice dies once",
                one,
                "paint 1 1 = 1, paint 2 1 = 1, paint 3 1 = 1, alive 5 0 = 1, alive 5 1 = 2");
        b.of(where, words, "who lies below has no say",
                one,
                "paint 0 0 = 2, alive 5 0 = 1, alive 5 1 = 2, paint 1 1 = 1, alive 5 0 = 1, alive 5 1 = 4");
    }

    private static void mean(Boundaries b) {
        String where = "Promise 29";
        String words = "Likewise, the mean of VALUE of those who live: 0, 1. BAD.";
        String two = "tell 'parts 2;plain 0 0;plain 0 0;bond 0 1;worth 0 3;paint 0 0;paint 1 1;' = 7";
        b.of(where, words, "v -1, 0, 10, 11",
                two,
                "mean -1 0 = BAD, mean 0 0 = 5, mean 0 1 = 1, mean 10 0 = 0, mean 10 1 = 1, mean 11 0 = BAD, mean 11 1 = BAD",
                "mean MIN 0 = BAD, mean MAX 0 = BAD");
        // 4 by one life each, 1 more by two.
        b.of(where, words, "v 1 and 9", two, "mean 1 0 = 441, mean 1 1 = 100, mean 9 0 = 41, mean 9 1 = 100");
        b.of(where, words, "what -1, 0, 1, 2",
                two,
                "mean 5 -1 = BAD, mean 5 0 = 9, mean 5 1 = 4, mean 5 2 = BAD, mean 5 MIN = BAD, mean 5 MAX = BAD");
        b.of(where, words, "a BOND by one hangs on one life",
                "tell 'parts 2;plain 0 0;bond 0 1;paint 0 0;paint 1 0;' = 5, mean 5 0 = 3, mean 5 1 = 2");
        b.of(where, words, "those who are not LIKE", two, "alter 0 1 5 = 0, mean 5 0 = 2, mean 5 1 = 1");
        b.of(where, words, "none shows", "mean 0 0 = 0, mean 0 1 = 1, tell 'plain 0 0;' = 1, mean 3 0 = 0, mean 3 1 = 1");
    }
}
