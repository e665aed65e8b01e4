/** The boundaries of A DAY by turns and of promises 17 to 20. */
public final class BoundaryDaysTest {
    private static final String TERMS = "Terms";

    public static void main(String[] args) {
        Boundaries all = new Boundaries("BoundaryDaysTest");
        cases(all);
        all.run();
    }

    static void cases(Boundaries b) {
        partOfDay(b);
        whoComes(b);
        freeOnDay(b);
        layers(b);
        earns(b);
        mostEarned(b);
        go(b);
        ahead(b);
        when(b);
        even(b);
    }

    private static void partOfDay(Boundaries b) {
        String words = "A DAY by turns: to the PART of DAY (modulo PARTS)";
        b.of(TERMS, words, "two PARTS: DAY 2 goes round to PART 0", "tell 'parts 2;plain 0 0 0 1 2 3 4 5 6;' = 2",
                "go 1 = 1, part 0 1 = 1, part 1 1 = 0, go 1 = 1, part 1 1 = 1, go 1 = 1, part 0 1 = 2, part 1 1 = 1");
        b.of(TERMS, words, "four PARTS: DAY 4 goes round to PART 0", "tell 'plain 0 0 0 1 2 3 4 5 6;' = 1",
                "go 3 = 3, part 3 1 = 0, go 1 = 1, part 3 1 = 1, part 0 1 = 1, go 1 = 1, part 0 1 = 2, count 4 = 5");
        b.of(TERMS, words, "six PARTS: DAY 6 goes round to PART 0", "tell 'parts 6;plain 0 0 0 1 2 3 4 5 6;' = 2",
                "go 5 = 5, part 5 1 = 0, go 1 = 1, part 5 1 = 1, part 0 1 = 1, go 1 = 1, part 0 1 = 2, count 4 = 7");
        // 998 is 4 modulo 7, 2 modulo 4.
        b.of(TERMS, words, "DAY 998, the last that goes", "tell 'plain 0 0 4;' = 1, 16 times go 60, go 38 = 5, rule 4 = 998",
                "4 times scrape 2, go 1 = 1, part 2 1 = 1, rule 4 = 999");
    }

    private static void whoComes(Boundaries b) {
        String words = "comes the first SITTER, from the one behind THE LAST on (from 0 on, if there is none), round, THE LAST himself at the end,";
        b.of(TERMS, words, "none is THE LAST: from 0 on",
                "tell 'plain 0 0 0;plain 0 0 0;plain 0 0 0;' = 3, go 1 = 1, rule 5 = 0, part 0 2 = 0");
        b.of(TERMS, words, "none is THE LAST, 0 is not FREE",
                "tell 'plain 0 0 1;plain 0 0;plain 0 0 0;' = 3, go 1 = 1, rule 5 = 2, part 0 2 = 2");
        b.of(TERMS, words, "none is THE LAST: who is painted by paint() is not",
                "tell 'plain 0 0 0;plain 0 0 0;paint 0 0;' = 3, go 1 = 1, rule 5 = 0");
        b.of(TERMS, words, "the one behind THE LAST, though those ahead are FREE, too",
                "tell 'plain 0 0 0 1 2;plain 0 0 1 2;plain 0 0 2;' = 3",
                "go 1 = 1, rule 5 = 0, go 1 = 1, rule 5 = 1, go 1 = 1, rule 5 = 2");
        b.of(TERMS, words, "the one behind THE LAST is not FREE",
                "tell 'plain 0 0 0;plain 0 0;plain 0 0 0 1;' = 3, go 1 = 1, rule 5 = 0, go 1 = 1, rule 5 = 2");
        b.of(TERMS, words, "round, behind the 5th SITTER",
                "tell 'plain0 0 0 5;plain0 0 1;plain0 0 2;plain0 0 3;plain0 0 4 5;' = 5",
                "go 5 = 5, rule 5 = 4, go 1 = 1, rule 5 = 0, part 1 2 = 0");
        b.of(TERMS, words, "round, past those who are not FREE",
                "tell 'plain 0 0 2;plain 0 0 0 2;plain 0 0;' = 3, go 1 = 1, rule 5 = 1, go 1 = 0, go 1 = 1, rule 5 = 0");
        b.of(TERMS, words, "THE LAST himself, who alone is FREE",
                "tell 'plain 0 0;plain 0 0 0 1;plain 0 0;' = 3, go 2 = 2, rule 5 = 1, part 1 2 = 1");
        b.of(TERMS, words, "THE LAST himself, the 5th",
                "tell 'plain0 0;plain0 0;plain0 0;plain0 0;plain0 0 0 1;' = 5, go 2 = 2, rule 5 = 4");
        b.of(TERMS, words, "THE LAST himself, of one alone", "tell 'plain 0 0 0 1;' = 1, go 2 = 2, rule 5 = 0, part 1 2 = 0");
        b.of(TERMS, words, "THE LAST himself at the end, not ahead of one who is FREE",
                "tell 'plain 0 0 1;plain 0 0 0 1;' = 2, go 1 = 1, rule 5 = 1, go 1 = 1, rule 5 = 0");
    }

    private static void freeOnDay(Boundaries b) {
        String words = "who is FREE on DAY (modulo 7):";
        b.of(TERMS, words, "day 6 of the week, then DAY 7 is day 0", "tell 'plain 0 0 6;plain 0 0 0;' = 2",
                "go 1 = 1, rule 5 = 1, go 5 = 0, go 1 = 1, rule 5 = 0, go 1 = 1, rule 5 = 1, go 5 = 0, go 2 = 2");
        b.of(TERMS, words, "DAYS 13 and 14",
                "tell 'plain 0 0 6;twin 0 0 0;' = 2, go 13 = 3, rule 5 = 1, go 1 = 1, rule 5 = 0, go 1 = 1, rule 5 = 1");
        b.of(TERMS, words, "FREE on no day, on each day",
                "tell 'plain 0 0;' = 1, go 7 = 0, alter 0 3 127 = 0, go 7 = 7, alter 0 3 0 = 127, go 7 = 0");
        String last = "He is THE LAST. Is nobody FREE, nothing is painted.";
        b.of(TERMS, last, "he stays THE LAST, where nobody is FREE",
                "tell 'plain 0 0;plain 0 0 0;' = 2, go 1 = 1, rule 5 = 1, go 6 = 0, rule 5 = 1, count 4 = 1, part 1 1 = 0");
        b.of(TERMS, last, "nobody is FREE ever", "tell 'plain 0 0;' = 1, go 60 = 0, rule 5 = NONE, rule 6 = 15");
        b.of(TERMS, last, "nobody is there", "go 60 = 0, rule 5 = NONE, rule 4 = 60, rule 6 = 15");
        String more = "DAY is 1 more.";
        b.of(TERMS, more, "by a day with nobody, by one with somebody",
                "rule 4 = 0, go 1 = 0, rule 4 = 1, tell 'plain 0 0 0;' = 1, rule 4 = 0, go 1 = 1, rule 4 = 1, go 1 = 0",
                "rule 4 = 2");
    }

    private static void layers(Boundaries b) {
        String words = "a LAYER more; has it 4, the lowest one goes first.";
        b.of(TERMS, words, "the 4th: none goes",
                "tell 'plain 0 0 0;twin 0 0;paint 0 1;paint 0 1;paint 0 1;' = 5, go 1 = 1, part 0 1 = 4",
                "layer 0 0 = 1, layer 0 1 = 1, layer 0 2 = 1, layer 0 3 = 0");
        b.of(TERMS, words, "the 5th: the lowest goes",
                "tell 'plain 0 0 0;twin 0 0;shadow 0 0;paint 0 0;paint 0 1;paint 0 2;paint 0 1;' = 7, go 1 = 1, part 0 1 = 4",
                "layer 0 0 = 1, layer 0 1 = 2, layer 0 2 = 1, layer 0 3 = 0, layer 0 4 = BAD, part 1 1 = 0");
        b.of(TERMS, words, "the 5th of PART 5",
                "tell 'parts6;plain0 0 5;twin0 0;paint5 0;paint5 1;paint5 0;paint5 0;' = 7, go 6 = 1, part 5 1 = 4",
                "layer 5 0 = 1, layer 5 1 = 0, layer 5 2 = 0, layer 5 3 = 0");
        b.of(TERMS, words, "a LAYER that comes for one that goes is painted, too",
                "tell 'parts 2;plain 0 0 0 1 2 3 4 5 6;' = 2, go 8 = 8, count 4 = 8, go 60 = 60, count 4 = 8");
    }

    private static void earns(Boundaries b) {
        String words = "Then each SITTER EARNS the WORTHS of PARTS that show him,";
        b.of(TERMS, words, "who comes earns on that day",
                "tell 'plain 0 0 0;worth 0 5;' = 2, go 1 = 1, sitter 0 4 = 5, go 1 = 0, sitter 0 4 = 10");
        b.of(TERMS, words, "who is painted over does not earn on that day",
                "tell 'plain 0 0 0;twin 0 0;worth 0 5;paint 0 1;' = 4, go 1 = 1, sitter 1 4 = 0, sitter 0 4 = 5");
        b.of(TERMS, words, "who shows nowhere earns nothing",
                "tell 'plain 0 0;twin 0 0;paint 0 1;paint 0 0;' = 4, go 9 = 0, sitter 1 4 = 0, sitter 0 4 = 9");
        b.of(TERMS, words, "a WORTH of 0", "tell 'plain 0 0;worth 3 0;paint 3 0;' = 3, go 9 = 0, sitter 0 4 = 0");
        b.of(TERMS, words, "all six PARTS of WORTH 9",
                "tell 'parts6;stranger0 0 0 1 2 3 4 5;worth0 9;worth1 9;worth2 9;worth3 9;worth4 9;worth5 9;' = 8",
                "go 6 = 6, sitter 0 5 = 63, sitter 0 4 = 189, go 1 = 0, sitter 0 4 = 243");
        String half = "a shadow half of their sum (down);";
        b.of(TERMS, half, "of a sum of 0, 1, 2, 3, 9",
                "tell 'shadow 0 0;paint 0 0;worth 0 0;' = 3, go 1 = 0, sitter 0 4 = 0, worth 0 1 = 0, go 2 = 0, sitter 0 4 = 0",
                "worth 0 2 = 1, go 1 = 0, sitter 0 4 = 1, worth 0 3 = 2, go 1 = 0, sitter 0 4 = 2, worth 0 9 = 3, go 1 = 0",
                "sitter 0 4 = 6");
        b.of(TERMS, half, "of the sum, not of each WORTH",
                "tell 'shadow 0 0;paint 0 0;paint 1 0;' = 3, go 1 = 0, sitter 0 4 = 1, worth 0 3 = 1, worth 1 3 = 1, go 1 = 0",
                "sitter 0 4 = 4");
        b.of(TERMS, half, "by days, not of all days' sum",
                "tell 'shadow 0 0;paint 0 0;worth 0 3;' = 3, go 2 = 0, sitter 0 4 = 2");
        b.of(TERMS, half, "a twin, a stranger, a plain one have all",
                "tell 'twin0 0;stranger0 0;plain0 0;worth0 3;worth1 3;worth2 3;paint0 0;paint1 1;paint2 2;' = 9",
                "go 1 = 0, sitter 0 4 = 3, sitter 1 4 = 3, sitter 2 4 = 3");
    }

    private static void mostEarned(Boundaries b) {
        String words = "EARNED 999 at most.";
        String ahead = "tell 'parts 2;plain 0 0;worth 0 9;paint 0 0;' = 4, go 60 = 0, go 50 = 0, sitter 0 4 = 990";
        b.of(TERMS, words, "999 to the point, then no more",
                ahead,
                "go 1 = 0, sitter 0 4 = 999, go 1 = 0, sitter 0 4 = 999, go 60 = 0, sitter 0 4 = 999");
        b.of(TERMS, words, "998 and 1",
                ahead,
                "worth 0 8 = 9, go 1 = 0, sitter 0 4 = 998, worth 0 1 = 8, go 1 = 0, sitter 0 4 = 999");
        b.of(TERMS, words, "998 and 2",
                ahead,
                "worth 0 8 = 9, go 1 = 0, sitter 0 4 = 998, worth 0 2 = 8, go 1 = 0, sitter 0 4 = 999");
        b.of(TERMS, words, "995 and 9",
                ahead,
                "worth 0 5 = 9, go 1 = 0, sitter 0 4 = 995, worth 0 9 = 5, go 1 = 0, sitter 0 4 = 999");
        b.of(TERMS, words, "of a shadow",
                "tell 'parts 2;shadow 0 0;worth 0 9;worth 1 9;paint 0 0;paint 1 0;' = 6, go 60 = 0, go 50 = 0",
                "sitter 0 4 = 990",
                "go 1 = 0, sitter 0 4 = 999, go 1 = 0, sitter 0 4 = 999");
        b.of(TERMS, words, "of one, not of the other",
                "tell 'parts 2;plain 0 0;plain 0 0;worth 0 9;paint 0 0;paint 1 1;' = 6, go 60 = 0, go 60 = 0, sitter 0 4 = 999",
                "sitter 1 4 = 120");
    }

    private static void go(Boundaries b) {
        String where = "Promise 17";
        String words = "n DAYS go (0 to 60): how many LAYERS are painted in them.";
        b.of(where, words, "-1 and 0",
                "tell 'plain 0 0 0;' = 1, go -1 = BAD, go MIN = BAD, rule 4 = 0, go 0 = 0, rule 4 = 0, part 0 1 = 0");
        b.of(where, words, "60 and 61",
                "tell 'plain 0 0 0;' = 1, go 61 = BAD, go MAX = BAD, rule 4 = 0, go 60 = 9, rule 4 = 60, go 61 = BAD",
                "rule 4 = 60");
        b.of(where, words, "one, which paints, and one, which does not",
                "tell 'plain 0 0 0;' = 1, go 1 = 1, go 1 = 0, rule 4 = 2");
        b.of(where, words, "sixty LAYERS", "tell 'plain 0 0 0 1 2 3 4 5 6;' = 1, go 60 = 60, count 4 = 16");
        String full = "BAD; FULL: DAY would be 1000 or more.";
        String ahead = "tell 'plain 0 0;' = 1, 16 times go 60, rule 4 = 960";
        b.of(where, full, "999 by one call, 1000 by one call", ahead, "go 40 = FULL, rule 4 = 960, go 39 = 0, rule 4 = 999");
        b.of(where, full, "1001, 1020", ahead, "go 41 = FULL, go 60 = FULL, rule 4 = 960");
        b.of(where, full, "from 998, from 999",
                ahead,
                "go 38 = 0, rule 4 = 998, go 2 = FULL, go 1 = 0, rule 4 = 999, go 1 = FULL, go 60 = FULL, rule 4 = 999");
        b.of(where, full, "no DAY at 999", ahead, "go 39 = 0, go 0 = 0, rule 4 = 999");
        b.of(where, full, "BAD ahead of FULL",
                ahead,
                "go 39 = 0, go 61 = BAD, go -1 = BAD, go MAX = BAD, go MIN = BAD, go 60 = FULL");
        b.of(where, full, "with nobody", "16 times go 60, go 40 = FULL, go 39 = 0, go 1 = FULL");
        b.of(where, full, "some of the days could go: none does",
                "tell 'plain 0 0 0 1 2 3 4 5 6;' = 1, 16 times go 60, go 38 = 38, sitter 0 4 = 999, go 2 = FULL, rule 4 = 998");
    }

    private static void ahead(Boundaries b) {
        String where = "Promise 18";
        String words = "Behind n DAYS (0 to 60): by how much EARNED of a SITTER is more then (what 0; 999 at most as it is),"
                + " PARTS that show him then (1; bits). BAD.";
        // He comes on DAYS 0, 7, 14, 21 to PARTS 0, 3, 2, 1: 7 times 3, 7 times 4, 7 times 5, then 39 times 6.
        String one = "tell 'plain 0 0 0;worth 0 3;' = 2";
        b.of(where, words, "-1 and 0 DAYS",
                one,
                "ahead 0 -1 0 = BAD, ahead 0 -1 1 = BAD, ahead 0 0 0 = 0, ahead 0 0 1 = 0, ahead 0 MIN 0 = BAD");
        b.of(where, words, "one DAY", one, "ahead 0 1 0 = 3, ahead 0 1 1 = 1");
        b.of(where, words, "7 and 8 DAYS", one, "ahead 0 7 0 = 21, ahead 0 7 1 = 1, ahead 0 8 0 = 25, ahead 0 8 1 = 9");
        b.of(where, words, "60 and 61 DAYS",
                one,
                "ahead 0 60 0 = 318, ahead 0 60 1 = 15, ahead 0 61 0 = BAD, ahead 0 61 1 = BAD, ahead 0 MAX 0 = BAD");
        b.of(where, words, "SITTERS -1, 0, the last, the one behind",
                "tell 'plain 0 0;plain 0 0;paint 3 1;' = 3",
                "ahead -1 1 0 = BAD, ahead 0 1 0 = 0, ahead 1 1 0 = 1, ahead 1 1 1 = 8, ahead 2 1 0 = BAD, ahead MIN 1 0 = BAD",
                "ahead MAX 1 0 = BAD");
        b.of(where, words, "what -1, 0, 1, 2",
                one,
                "ahead 0 1 -1 = BAD, ahead 0 1 0 = 3, ahead 0 1 1 = 1, ahead 0 1 2 = BAD, ahead 0 1 MIN = BAD",
                "ahead 0 1 MAX = BAD");
        b.of(where, words, "nobody", "ahead 0 0 0 = BAD");
        b.of(where, words, "more than what he has, not all of it",
                "tell 'plain 0 0;worth 0 3;paint 0 0;' = 3, go 5 = 0, sitter 0 4 = 15, ahead 0 1 0 = 3, ahead 0 60 0 = 180");
        String rich = "tell 'parts 2;plain 0 0;worth 0 9;paint 0 0;' = 4, go 60 = 0, go 50 = 0, sitter 0 4 = 990";
        b.of(where, words, "999 at most: from 990, from 998, from 999",
                rich,
                "ahead 0 1 0 = 9, ahead 0 2 0 = 9, ahead 0 60 0 = 9",
                "worth 0 8 = 9, go 1 = 0, ahead 0 1 0 = 1, ahead 0 60 0 = 1, go 1 = 0, sitter 0 4 = 999, ahead 0 1 0 = 0",
                "ahead 0 60 0 = 0");
        // 999 is 5 modulo 7, 1 modulo 2.
        b.of(where, words, "from DAY 999 on there is no FULL",
                "tell 'parts 2;plain 0 0 5;worth 0 0;worth 1 0;' = 4, 16 times go 60, go 39 = 5, 4 times scrape 1",
                "rule 4 = 999, worth 1 2 = 0",
                "ahead 0 0 1 = 1, ahead 0 1 1 = 3, ahead 0 60 1 = 3, ahead 0 60 0 = 120, go 1 = FULL, rule 4 = 999");
    }

    private static void when(Boundaries b) {
        String where = "Promise 19";
        String words = "Behind how many DAYS (0 to 60) a PART shows a SITTER first. BAD; NONE: behind none.";
        b.of(where, words, "0: he shows already", "tell 'plain 0 0;plain 0 0 0;paint 0 0;' = 3, when 0 0 = 0, when 0 1 = 1");
        b.of(where, words, "1, not 0", "tell 'plain 0 0 0;' = 1, when 0 0 = 1, go 1 = 1, when 0 0 = 0");
        // One of the five comes each week: the 9th, by 3, is on DAY 59 to PART 5, or on DAY 60 to PART 0.
        b.of(where, words, "60",
                "tell 'parts 6;plain 0 0 3;plain 0 0 3;plain 0 0 3;plain 0 0 3;plain 0 0 3;' = 6, when 5 3 = 60, go 1 = 0",
                "when 5 3 = 59");
        b.of(where, words, "61 is behind none",
                "tell 'parts 6;plain 0 0 4;plain 0 0 4;plain 0 0 4;plain 0 0 4;plain 0 0 4;' = 6, when 0 3 = NONE, go 1 = 0",
                "when 0 3 = 60");
        b.of(where, words, "first, though he is painted over and comes again",
                "tell 'parts 2;plain 0 0 0;plain 0 0 2;' = 3, when 0 0 = 1, when 0 1 = 3, paint 0 1 = 1, when 0 1 = 0");
        b.of(where, words, "who lies below does not show",
                "tell 'plain 0 0;plain 0 0;paint 0 0;paint 0 1;' = 4, when 0 0 = NONE, when 0 1 = 0");
        b.of(where, words, "never: FREE on no day", "tell 'plain 0 0;' = 1, when 0 0 = NONE, when 3 0 = NONE");
        b.of(where, words, "PARTS -1, 0, the last, the one behind",
                "tell 'plain 0 0;' = 1, paint 3 0 = 1, when -1 0 = BAD, when 0 0 = NONE, when 3 0 = 0, when 4 0 = BAD",
                "when MIN 0 = BAD, when MAX 0 = BAD");
        b.of(where, words, "SITTERS -1, 0, the last, the one behind",
                "tell 'plain 0 0;plain 0 0;' = 2, paint 0 1 = 1, when 0 -1 = BAD, when 0 0 = NONE, when 0 1 = 0",
                "when 0 2 = BAD, when 0 MIN = BAD, when 0 MAX = BAD");
        b.of(where, words, "BAD ahead of NONE: a bare PART shows nobody, who is no SITTER",
                "when 0 0 = BAD, when 0 -4 = BAD, when 0 -1 = BAD");
        b.of(where, words, "from DAY 999 on there is no FULL",
                "tell 'parts 2;plain 0 0 5;' = 2, 16 times go 60, go 39 = 5, 4 times scrape 1, 4 times scrape 0, when 1 0 = 1",
                "when 0 0 = 8");
    }

    private static void even(Boundaries b) {
        String where = "Promise 20";
        String words = "Behind how many DAYS (1 to 60) first all have had alike in them (999 aside).";
        String none = "NONE: behind none (also where there is nobody).";
        b.of(where, words, "1, not 0, though behind 0 all have had alike",
                "tell 'plain 0 0;plain 0 0;' = 2, even = 1, paint 0 0 = 1, paint 1 1 = 1, even = 1");
        b.of(where, words, "one alone: 1", "tell 'plain 0 0;paint 0 0;' = 2, even = 1, go 60 = 0, even = 1");
        b.of(where, words, "all five, not four of them",
                "tell 'parts6;plain0 0;plain0 0;plain0 0;plain0 0;plain0 0;paint0 0;paint1 1;paint2 2;paint3 3;' = 10",
                "even = NONE, paint 4 4 = 1, even = 1");
        // The other one comes on DAY 30 to PART 0, the only one that is worth a thing: 30 and 30.
        String sixty = "tell 'parts 6;plain 0 0;plain 0 0 2;paint 0 0;worth 1 0;worth 2 0;worth 3 0;worth 4 0;worth 5 0;' = 9";
        b.of(where, words, "60", sixty, "even = 60");
        b.of(where, words, "in them, not what was had before",
                sixty,
                "go 1 = 0, even = 58, go 28 = 4, even = 2, go 1 = 0, even = NONE");
        // Likewise on DAY 31 to PART 1: 31 and 31.
        b.of(where, none, "62, then 60",
                "tell 'parts 6;plain 0 0;plain 0 0 3;paint 1 0;worth 0 0;worth 2 0;worth 3 0;worth 4 0;worth 5 0;' = 9",
                "even = NONE, go 1 = 0, even = 60");
        b.of(where, none, "61", "tell 'parts 6;plain 0 0 6;plain 0 0 3;worth 0 9;paint 1 1;' = 5, even = NONE");
        b.of(where, none, "one has all", "tell 'plain 0 0;plain 0 0;paint 3 1;' = 3, even = NONE");
        b.of(where, none, "nobody", "even = NONE, go 1 = 0, even = NONE");
        b.of(where, words, "first, though not on the next one",
                "tell 'parts 2;plain 0 0;plain 0 0 1;paint 0 0;paint 1 1;' = 5, even = 1, worth 1 2 = 1, even = NONE",
                "worth 0 2 = 1, even = 1");
        // One is at 999 and goes on having 18 each day, the other one has nothing.
        String rich = "tell 'parts 2;plain 0 0;plain 0 0;worth 0 9;worth 1 9;paint 0 0;paint 1 0;' = 7, go 60 = 0, sitter 0 4 = 999, sitter 1 4 = 0";
        b.of(where, words, "999 aside: he who is at 999 has more all the same", rich, "even = NONE");
        b.of(where, words, "999 aside: he who is at 999 has as much all the same",
                rich,
                "scrape 0 = 0, paint 0 1 = 1, even = 1");
        b.of(where, words, "a shadow has half",
                "tell 'parts 2;plain 0 0;shadow 0 0;worth 0 4;worth 1 9;paint 0 0;paint 1 1;' = 7, even = 1, worth 1 7 = 9",
                "even = NONE");
        b.of(where, words, "from DAY 999 on there is no FULL",
                "tell 'parts 2;plain 0 0;plain 0 0 6;paint 0 0;worth 1 0;' = 5, 16 times go 60, go 39 = 5",
                "4 times scrape 0, paint 0 0 = 1, even = 2");
    }
}
