/** The boundaries of SEEN and of promises 30 to 34. */
public final class BoundarySeenTest {
    private static final String FIVE = "plain0 0;plain0 0;plain0 0;plain0 0;plain0 0;";

    public static void main(String[] args) {
        Boundaries all = new Boundaries("BoundarySeenTest");
        cases(all);
        all.run();
    }

    static void cases(Boundaries b) {
        seenInTerms(b);
        see(b);
        forget(b);
        fits(b);
        ask(b);
        drift(b);
        drawn(b);
    }

    private static void seenInTerms(Boundaries b) {
        String where = "Terms";
        String six = "SEEN (6): two PARTS were by one SITTER, or not.";
        b.of(where, six, "six, not seven", "5 times see 0 1 yes, see 0 2 no = 6, see 0 3 yes = FULL, count 0 = 6");
        b.of(where, six, "by one, or not",
                "tell 'parts 2;plain 0 0;plain 0 0;plain 0 0;' = 4, see 0 1 yes = 1, fits 0 = 3, fits 1 = 0, forget 0 = 1",
                "see 0 1 no = 1, fits 0 = 6, fits 1 = 1");
        String possible = "A PICTURE is POSSIBLE, if it FITS and all is as SEEN.";
        b.of(where, possible, "nothing is SEEN",
                "tell 'parts 2;stranger 0 0;stranger 0 0;bond 0 1;' = 4, fits 0 = 2, fits 1 = 0");
        b.of(where, possible, "as SEEN, but it does not FIT",
                "tell 'parts 2;stranger 0 0;stranger 0 0;bond 0 1;' = 4, see 0 1 no = 1, fits 0 = 0, many = 2");
        b.of(where, possible, "it FITS, but is not as SEEN",
                "tell 'parts 2;plain 0 0;plain 1 0;bond 0 1;' = 4, see 0 1 yes = 1, fits 0 = 2, see 0 1 no = 2, fits 0 = 0",
                "fits 1 = NONE");
        b.of(where, possible, "all six, the sixth, too",
                "tell 'parts6;plain0 0;plain0 0;' = 3, see 0 1 yes = 1, see 1 2 yes = 2, see 2 3 yes = 3, see 3 4 yes = 4",
                "see 0 1 yes = 5, fits 0 = 4",
                "see 5 4 no = 6, fits 0 = 2, fits 1 = 1");
        b.of(where, possible, "LIKE ones are not one", "tell 'parts 2;plain 0 0;plain 0 0;' = 3, see 1 0 yes = 1, fits 0 = 2");
    }

    private static void see(Boundaries b) {
        String where = "Promise 30";
        String words = "SEEN: two PARTS were by one, or not: how many are. BAD (also alike); FULL.";
        b.of(where, words, "the first, the sixth, the seventh",
                "see 0 1 yes = 1, see 1 2 no = 2, see 2 3 yes = 3, see 3 0 no = 4, see 0 2 yes = 5, see 1 3 no = 6",
                "see 0 1 yes = FULL, see 0 1 no = FULL");
        b.of(where, words, "PARTS -1, 0, the last, the one behind",
                "see -1 0 yes = BAD, see 0 3 yes = 1, see 4 0 yes = BAD, see 0 -1 no = BAD, see 3 0 no = 2, see 0 4 no = BAD",
                "see MIN 0 yes = BAD, see MAX 0 yes = BAD, see 0 MIN yes = BAD, see 0 MAX yes = BAD, count 0 = 2");
        b.of(where, words, "alike", "see 0 0 yes = BAD, see 3 3 no = BAD, see 4 4 yes = BAD, count 0 = 0");
        b.of(where, words, "the last of two, of six",
                "tell 'parts 2;' = 1, see 0 2 yes = BAD, see 0 1 yes = 1, tell 'parts 6;' = 1, see 0 5 yes = 1",
                "see 5 6 yes = BAD, see 5 4 yes = 2");
        b.of(where, words, "BAD ahead of FULL",
                "6 times see 0 1 yes, see 0 0 yes = BAD, see 0 4 no = BAD, see -1 0 yes = BAD, see 1 0 yes = FULL");
        b.of(where, words, "the same two once more, the other way round, otherwise",
                "see 0 1 yes = 1, see 0 1 yes = 2, see 1 0 yes = 3, see 0 1 no = 4");
    }

    private static void forget(Boundaries b) {
        String where = "Promise 31";
        String words = "SEEN are the first n alone: how many there were. BAD (n above that, too).";
        String two = "tell 'parts 3;plain 0 0;plain 0 0;' = 3, see 0 1 no = 1, see 1 2 yes = 2";
        b.of(where, words, "-1, 0",
                two,
                "forget -1 = BAD, forget MIN = BAD, count 0 = 2, forget 0 = 2, count 0 = 0, fits 0 = 8");
        b.of(where, words, "all of them, one above",
                two,
                "forget 3 = BAD, forget MAX = BAD, forget 2 = 2, count 0 = 2, fits 0 = 2");
        b.of(where, words, "the first, not the last", two, "forget 1 = 2, count 0 = 1, fits 0 = 4, fits 1 = 2");
        b.of(where, words, "nothing SEEN", "forget 0 = 0, forget 1 = BAD, forget -1 = BAD");
        b.of(where, words, "all six, then room again",
                "6 times see 0 1 yes, forget 7 = BAD, forget 6 = 6, see 0 1 no = FULL, forget 5 = 6, see 0 1 no = 6",
                "see 0 1 no = FULL");
        b.of(where, words, "what is forgotten does not come back",
                two,
                "forget 0 = 2, forget 1 = BAD, forget 2 = BAD, see 0 2 yes = 1, fits 0 = 4, fits 1 = 0");
    }

    private static void fits(Boundaries b) {
        String where = "Promise 32";
        String words = "PICTURES that are POSSIBLE: how many (what 0), the first (1). BAD; NONE (1): there is none.";
        b.of(where, words, "what -1, 0, 1, 2",
                "tell 'plain 0 0;' = 1, fits -1 = BAD, fits 0 = 1, fits 1 = 0, fits 2 = BAD, fits MIN = BAD, fits MAX = BAD");
        b.of(where, words, "none: how many is 0, the first is NONE",
                "tell 'plain 0 0;' = 1, see 0 1 no = 1, fits 0 = 0, fits 1 = NONE");
        b.of(where, words, "nobody", "fits 0 = 0, fits 1 = NONE");
        b.of(where, words, "BAD ahead of NONE", "fits 2 = BAD, fits -1 = BAD, fits 1 = NONE");
        b.of(where, words, "all 15625", "tell 'parts6;" + FIVE + "' = 6, fits 0 = 15625, fits 1 = 0");
        b.of(where, words, "not PICTURE 0 the first",
                "tell 'parts 2;plain 0 0;plain 0 0;' = 3, see 0 1 no = 1, fits 0 = 2, fits 1 = 1");
        // 0 1 2 3 0 0 to the base of 5.
        b.of(where, words, "each by another one but the last two",
                "tell 'parts6;" + FIVE + "' = 6, see 0 1 no = 1, see 1 2 no = 2, see 0 2 no = 3, see 3 0 no = 4, see 3 1 no = 5, see 3 2 no = 6",
                "fits 0 = 3000, fits 1 = 950");
    }

    private static void ask(Boundaries b) {
        String where = "Promise 33";
        String words = "Two PARTS to ask of next (by one, or not) so that of PICTURES that are POSSIBLE fewest are left at the worst, fewer than now:"
                + " 10 times the lesser and the greater, of several the least (what 0), how many these are (1).";
        b.of(where, words, "two PARTS, two SITTERS: 0 and 1", "tell 'parts 2;plain 0 0;plain 0 0;' = 3, ask 0 = 1, ask 1 = 2");
        b.of(where, words, "of several the least", "tell 'parts 6;plain 0 0;plain 0 0;' = 3, ask 0 = 1, ask 1 = 32");
        // PARTS 0 to 3 are by one, 4 and 5 are not by him: 12 PICTURES, of 4 and 5 alike in 6.
        b.of(where, words, "the greatest two: 4 and 5",
                "tell 'parts6;stranger0 0;stranger0 0;stranger0 0;bond0 1;bond1 2;bond2 3;' = 7, see 0 4 no = 1",
                "see 5 0 no = 2, fits 0 = 12, ask 0 = 45, ask 1 = 6");
        b.of(where, words, "at the worst: by one 3, not by one 6",
                "tell 'parts 2;plain 0 0;plain 0 0;plain 0 0;' = 4, ask 0 = 1, ask 1 = 6");
        // 0 1 2 fit but for 0 beside 2: by one in 3 of 7.
        b.of(where, words, "at the worst: by one 3, not by one 4",
                "tell 'parts 2;plain 0 0;plain 1 0;plain 2 0;bond 0 1;' = 5, fits 0 = 7, ask 0 = 1, ask 1 = 4");
        // 1 and 2 are by one in 9 of 21, the others in 7 of 21.
        b.of(where, words, "fewest ahead of least",
                "tell 'parts 3;plain 0 0;plain 1 0;plain 2 0;bond 1 2;' = 5, fits 0 = 21, ask 0 = 12, ask 1 = 12");
        // Likewise in 27 of 63, and of three times as many.
        b.of(where, words, "fewest: neither the least nor the greatest two",
                "tell 'parts 4;plain 0 0;plain 1 0;plain 2 0;bond 1 2;' = 5, fits 0 = 63, ask 0 = 12, ask 1 = 36",
                "tell 'parts 6;plain 0 0;plain 1 0;plain 2 0;bond 3 4;' = 5, fits 0 = 567, ask 0 = 34, ask 1 = 324");
        b.of(where, words, "fewer than now: not two who are known",
                "tell 'parts 3;plain 0 0;stranger 5 0;stranger 5 0;bond 0 1;' = 5, fits 0 = 9, ask 0 = 2, ask 1 = 6",
                "see 0 1 yes = 1, ask 0 = 2, ask 1 = 6, see 0 2 no = 2, ask 0 = NONE");
        b.of(where, words, "fewer than now: not as many",
                "tell 'parts 2;plain 0 0;plain 0 0;' = 3, see 0 1 yes = 1, fits 0 = 2, ask 0 = NONE",
                "tell 'parts 2;plain 0 0;plain 5 0;bond 0 1;' = 4, ask 0 = NONE, ask 1 = NONE");
        String none = "BAD; NONE: by none.";
        b.of(where, none, "one PICTURE is left", "tell 'plain 0 0;' = 1, fits 0 = 1, ask 0 = NONE, ask 1 = NONE");
        b.of(where, none, "no PICTURE is left",
                "tell 'plain 0 0;plain 0 0;' = 2, see 0 1 yes = 1, see 0 1 no = 2, fits 0 = 0, ask 0 = NONE, ask 1 = NONE");
        b.of(where, none, "nobody", "ask 0 = NONE, ask 1 = NONE");
        b.of(where, none, "all pairs are known",
                "tell 'parts 3;plain 0 0;plain 0 0;' = 3, see 0 1 no = 1, see 1 2 no = 2, fits 0 = 2, ask 0 = NONE",
                "ask 1 = NONE");
        b.of(where, none, "what -1 and 2",
                "tell 'plain 0 0;plain 0 0;' = 2, ask -1 = BAD, ask 0 = 1, ask 1 = 8, ask 2 = BAD, ask MIN = BAD",
                "ask MAX = BAD");
        b.of(where, none, "BAD ahead of NONE", "ask -1 = BAD, ask 2 = BAD");
    }

    private static void drift(Boundaries b) {
        String where = "Promise 34";
        String words = "n times (1 to 60) by a seed:";
        String four = "tell 'parts 4;stranger 0 0;stranger 0 0;stranger 0 0;worth 1 2;worth 2 4;worth 3 8;' = 7";
        b.of(where, words, "n -1, 0, 1",
                four,
                "drift 1 -1 0 = BAD, drift 1 0 0 = BAD, drift 1 0 1 = BAD, drift 1 1 0 = 4, drift 1 MIN 0 = BAD");
        b.of(where, words, "n 60 and 61",
                four,
                "drift 1 60 0 = 15, drift 1 61 0 = BAD, drift 1 61 1 = BAD, drift 1 MAX 0 = BAD");
        String end = "VALUE of all in the end (what 0), how many BONDS show LIKE ones then (1). BAD; STATE: there is nobody.";
        b.of(where, end, "what -1, 0, 1, 2",
                four,
                "drift 1 1 -1 = BAD, drift 1 1 0 = 4, drift 1 1 1 = 0, drift 1 1 2 = BAD, drift 1 1 MIN = BAD",
                "drift 1 1 MAX = BAD");
        b.of(where, end, "nobody", "drift 1 1 0 = STATE, drift 1 60 1 = STATE, drift MIN 1 0 = STATE");
        b.of(where, end, "BAD ahead of STATE",
                "drift 1 0 0 = BAD, drift 1 61 0 = BAD, drift 1 1 -1 = BAD, drift 1 1 2 = BAD, drift 0 1 0 = STATE");
        b.of(where, "By itself (as it would be; nothing is changed),", "the same twice",
                four,
                "drift 1 1 0 = 4, drift 1 1 0 = 4, count 4 = 0, rule 6 = 15, rule 5 = NONE, rule 4 = 0");
        b.of(where, end, "what shows ahead counts, too",
                four,
                "paint 0 0 = 1, drift 1 1 0 = 5, paint 2 0 = 1, drift 1 1 0 = 5");
        // Seed 1 draws PART 2 and SITTER 1.
        b.of(where, "(has it 4 LAYERS, the lowest one goes first):", "four LAYERS, all by another one",
                "tell 'parts 4;stranger 0 0;stranger 0 0;stranger 0 0;bond 2 0;paint 0 1;' = 6",
                "4 times paint 2 0, bond 0 2 = 0, drift 1 1 1 = 1, drift 1 1 0 = 3, part 2 1 = 4, part 2 2 = 0");
    }

    /** Six PARTS of WORTHS 1, 2, 3, 5, 7, 9 and five SITTERS: 32768 is 2 modulo 6, 3 modulo 5. */
    private static void drawn(Boundaries b) {
        String where = "Promise 34";
        String becomes = "the seed becomes seed times 1103515245 and 12345;";
        String bits = "bits 16 to 30 of it modulo PARTS, then, the seed changed likewise once more, modulo SITTERS: that one sits for that PART";
        String six = "tell 'parts6;stranger0 0;stranger0 0;stranger0 0;stranger0 0;stranger0 0;bond0 1;bond1 2;bond2 3;bond3 4;bond4 5;' = 11";
        String worths = "worth 1 2 = 1, worth 2 3 = 1, worth 3 5 = 1, worth 4 7 = 1, worth 5 9 = 1";
        b.of(where, becomes, "seed 0: 12345, then 3554416254",
                six,
                worths,
                "drift 0 1 0 = 1, paint 1 3 = 1, drift 0 1 1 = 1, drift 0 1 0 = 4");
        b.of(where, becomes, "a seed beyond an int goes round: 1103527590 times 1103515245",
                six,
                worths,
                "drift 1 1 0 = 3, paint 3 3 = 1, drift 1 1 1 = 1, drift 1 2 0 = 8");
        b.of(where, becomes, "the least and the greatest int",
                six,
                worths,
                "drift MIN 1 0 = 1, drift MIN 2 0 = 8, drift MAX 1 0 = 9, drift MAX 2 0 = 16, drift -1 1 0 = 9",
                "drift -1 2 0 = 16");
        // 15929, with bit 31 it would be 48697: PART 5, not 1.
        b.of(where, bits, "bit 31 is none of them: PARTS",
                six,
                worths,
                "drift -1 1 0 = 9, drift 2 1 0 = 3, drift 12345 1 0 = 1");
        // 21468, with bit 31 it would be 54236: SITTER 3, not 1.
        b.of(where, bits, "bit 31 is none of them: SITTERS",
                six,
                worths,
                "paint 1 3 = 1, drift 0 1 1 = 1, scrape 1 = 3, paint 1 1 = 1, drift 0 1 1 = 0");
        // 16838 is PART 2; without bit 30 it would be 454, PART 4. 21468 is SITTER 3; without bit 30 5084, SITTER 4.
        b.of(where, bits, "bit 30 is one of them",
                six,
                worths,
                "drift 1 1 0 = 3, paint 1 3 = 1, drift 0 1 1 = 1, scrape 1 = 3, paint 1 4 = 1, drift 0 1 1 = 0");
        b.of(where, bits, "sixty times, all six PARTS",
                six,
                worths,
                "drift -1 60 0 = 40, drift -1 60 1 = 4, drift 3 60 0 = 35, drift 3 60 1 = 2, drift 1 60 0 = 34",
                "drift 1 60 1 = 1, drift 2 60 0 = 39");
        b.of(where, bits, "one PART's worth for one SITTER",
                "tell 'parts 2;plain 0 0;bond 0 1;' = 3, drift 0 1 0 = 1, drift 0 60 0 = 3, drift 0 60 1 = 1");
    }
}
