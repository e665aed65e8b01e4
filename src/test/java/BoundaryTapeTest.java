import java.util.ArrayList;
import java.util.List;

/** The boundaries of promises 1 to 5 and of THE TAPE with its TOKENS. */
public final class BoundaryTapeTest {
    private static final String NUMBERS = "NUMBERS (1 or 2 figures)";

    public static void main(String[] args) {
        Boundaries all = new Boundaries("BoundaryTapeTest");
        cases(all);
        all.run();
    }

    static void cases(Boundaries b) {
        aNewObject(b);
        feed(b);
        end(b);
        text(b);
        fault(b);
        places(b);
        blanks(b);
        longTokens(b);
        bytesOfTokens(b);
    }

    private static void aNewObject(Boundaries b) {
        String where = "Promise 1";
        b.of(where, "Four bare PARTS", "four, not three, not five",
                "rule 0 = 4, part 3 0 = 1, part 4 0 = BAD, when 4 0 = BAD, scrape 4 = BAD, worth 4 1 = BAD, see 3 4 yes = BAD");
        b.of(where, "Four bare PARTS", "each of them is bare",
                "rule 6 = 15, part 0 1 = 0, part 3 1 = 0, part 0 2 = NONE, part 3 2 = NONE, layer 0 0 = BAD, count 4 = 0",
                "scrape 0 = STATE, scrape 3 = STATE");
        b.of(where, "nobody", "no SITTER", "rule 1 = 0, sitter 0 0 = BAD, like 0 0 = BAD, paint 0 0 = BAD, alter 0 0 0 = BAD",
                "ahead 0 0 0 = BAD, when 0 0 = BAD, share 0 0 = BAD, value 1 = BAD, value 0 = 0");
        b.of(where, "nobody", "no BOND, no FORGER", "rule 2 = 0, bond 0 0 = BAD, rule 3 = 0, forger 0 = BAD, count 5 = 0");
        b.of(where, "SHEETS have nothing.", "each of the four",
                "lay 0 0 0 = -11, lay 1 0 0 = -11, lay 2 0 0 = -11, lay 3 0 0 = -11, count 3 = NONE",
                "read 0 0 0 1 = 0, torn = 1, read 3 2 0 1 = 0, torn = 1");
        b.of(where, "`PartSitters()`", "nothing on THE TAPE, nothing SEEN, no IMAGE, no FAULT",
                "count 2 = 0, end 0 = 0, end 1 = BAD, count 0 = 0, forget 0 = 0, forget 1 = BAD, count 1 = 0",
                "back 0 = STATE, back 1 = STATE, fault = 0, torn = 0");
    }

    private static void feed(Boundaries b) {
        String where = "Promise 2";
        String words = "A byte (0 to 127) comes behind THE TAPE: how many it has.";
        b.of(where, words, "-1 is none, 0 is one", "feed -1 = BAD, count 2 = 0, feed 0 = 1, count 2 = 1");
        b.of(where, words, "127 is one, 128 is none", "feed 127 = 1, feed 128 = BAD, count 2 = 1");
        b.of(where, words, "far from 0 to 127", "feed MIN = BAD, feed MAX = BAD, feed 256 = BAD, feed -128 = BAD, count 2 = 0");
        b.of(where, words, "behind, not ahead", "tape 'parts', feed 32 = 6, feed 50 = 7, feed 59 = 8, text = 1, rule 0 = 2");
        String full = "BAD; FULL: more than 160.";
        b.of(where, full, "the 160th byte and the 161st",
                "159 times feed 32, feed 32 = 160, feed 32 = FULL, count 2 = 160, text = 0");
        b.of(where, full, "the 161st is not told", "tape 'plain 0 0;', 150 times feed 32, feed 36 = FULL, text = 1, fault = 0");
        b.of(where, full, "BAD ahead of FULL",
                "160 times feed 32, feed -1 = BAD, feed 128 = BAD, feed 0 = FULL, feed 127 = FULL");
        b.of(where, full, "room again",
                "160 times feed 32, end 159 = 160, feed 59 = 160, feed 59 = FULL, text = -169, fault = 2");
    }

    private static void end(Boundaries b) {
        String where = "Promise 3";
        String words = "THE TAPE keeps its first n bytes: how many it had.";
        b.of(where, words, "none of them, all of them", "tape 'abc', end 3 = 3, count 2 = 3, end 0 = 3, count 2 = 0");
        b.of(where, words, "the first ones, not the last", "tape 'parts 3;x', end 8 = 9, text = 1, rule 0 = 3");
        b.of(where, words, "what is cut off does not come back", "tape 'parts 3;xyz', end 8 = 11, feed 32 = 9, text = 1");
        b.of(where, words, "all 160", "160 times feed 32, end 160 = 160, count 2 = 160, feed 32 = FULL, end 159 = 160");
        String bad = "BAD (n above that, too).";
        b.of(where, bad, "below 0", "tape 'ab', end -1 = BAD, end MIN = BAD, count 2 = 2");
        b.of(where, bad, "one above what it has", "tape 'ab', end 3 = BAD, end MAX = BAD, end 160 = BAD, end 2 = 2");
        b.of(where, bad, "THE TAPE without a byte", "end 1 = BAD, end -1 = BAD, end 0 = 0");
        b.of(where, bad, "above what is left", "tape 'abc', end 2 = 3, end 3 = BAD, end 2 = 2");
        b.of(where, bad, "161 of 160", "160 times feed 32, end 161 = BAD, count 2 = 160");
    }

    private static void text(Boundaries b) {
        String where = "Promise 4";
        b.of(where, "THE TAPE (empty then, by a FAULT, too) tells all", "empty behind a text that is taken",
                "tell 'parts 2;' = 1, count 2 = 0, end 1 = BAD, feed 59 = 1");
        b.of(where, "THE TAPE (empty then, by a FAULT, too) tells all", "empty behind a FAULT",
                "tell 'parts 2;$' = -18, count 2 = 0, end 1 = BAD, tell 'parts 3;' = 1, rule 0 = 3");
        b.of(where, "THE TAPE (empty then, by a FAULT, too) tells all", "empty behind FAULT 6 and behind FAULT 5",
                "tell 'worth 5 1;' = -20, count 2 = 0, tell 'forger;forger;forger;forger;forger;' = -38, count 2 = 0");
        b.of(where, "how many lines", "without a byte none", "text = 0, fault = 0, rule 0 = 4");
        b.of(where, "how many lines", "one", "tell 'forger;' = 1");
        b.of(where, "how many lines", "eighteen on a full TAPE",
                "tape 'forger;forger;forger;forger;plain0 0;', tape 'paint0 0;paint0 0;paint0 0;paint0 0;'",
                "tape 'paint1 0;paint1 0;paint1 0;paint1 0;paint2 0;paint2 0;paint2 0;paint2 0;paint3 0;'",
                "feed 32 = 155, 5 times feed 32, text = 18, count 4 = 13");
        b.of(where, "-10 less the place of its FAULT", "place 0", "tell '$' = -10, tell ';' = -10, tell 'judge 1;' = -10");
        b.of(where, "-10 less the place of its FAULT", "place 159", "159 times feed 32, feed 36 = 160, text = -169, fault = 1");
        b.of(where, "-10 less the place of its FAULT", "place 160, behind the last byte",
                "tape 'parts', 155 times feed 32, text = -170, fault = 2");
        b.of(where, "-10 less the place of its FAULT", "place 160, behind all lines",
                "tape 'bond 0 5;', 151 times feed 32, text = -170, fault = 6");
        for (String refused : new String[] {"parts 6;$' = -18, fault = 1", "parts 6;judge' = -18, fault = 2",
            "parts 6;plain 0 0;worth 0 10;' = -36, fault = 3", "parts 6;worth 1 9;worth 1 9;' = -34, fault = 4",
            "plain 0 0;paint 2 0;paint 2 0;paint 2 0;paint 2 0;paint 2 0;' = -66, fault = 5",
            "parts 2;worth 0 9;bond 0 1;forger;plain 0 0;paint 2 0;' = -64, fault = 6"}) {
            b.of(where, "that which was told stays", refused.substring(refused.length() - 9),
                    "tell 'parts 3;plain 1 2 0 1;twin 2 3 4;bond 0 1;forger 1;worth 1 4;paint 2 1;' = 7, go 2 = 2, keep 1 = 0",
                    "see 0 1 no = 1, sheet 0 1 3 = 1, lay 0 1 1 = 1",
                    "tell '" + refused,
                    "rule 0 = 3, rule 1 = 2, rule 2 = 1, rule 3 = 1, rule 4 = 2, part 1 0 = 4, count 0 = 1, count 1 = 1",
                    "count 3 = 3");
        }
    }

    private static void fault(Boundaries b) {
        String where = "Promise 5";
        String words = "The FAULT of the latest text(); 0.";
        b.of(where, words, "0 ahead of all texts", "fault = 0, feed 36 = 1, fault = 0");
        b.of(where, words, "0 behind one that is taken", "tell 'parts 2;' = 1, fault = 0, text = 0, fault = 0");
        b.of(where, words, "it stays until the next",
                "tell '$' = -10, fault = 1, feed 112 = 1, fault = 1, end 0 = 1, go 1 = 0, fault = 1");
        b.of(where, words, "the latest, not the first",
                "tell '$' = -10, fault = 1, tell ';' = -10, fault = 2, text = 0, fault = 0");
        b.of(where, words, "another call's refusal is none", "feed 128 = BAD, paint 0 0 = BAD, read 0 0 0 1 = 0, fault = 0");
    }

    private static void places(Boundaries b) {
        String where = "Terms";
        String words = "THE TAPE has 160 bytes, places from 0.";
        b.of(where, words, "the first byte's place is 0", "tell '$ ' = -10, tell ' $' = -11");
        b.of(where, words, "the last byte's place is 159",
                "tape 'parts 2;', 151 times feed 32, feed 59 = 160, text = -169, fault = 2");
        b.of(where, words, "a line that ends with the 160th byte",
                "152 times feed 32, tape 'parts 6;', count 2 = 160, text = 1, rule 0 = 6");
        b.of(where, words, "a line that would end with the 161st",
                "153 times feed 32, tape 'parts 6', feed 59 = FULL, text = -170, fault = 2, rule 0 = 4");
    }

    private static void blanks(Boundaries b) {
        String where = "Terms";
        String any = "any number of blanks (32) ahead of, between, behind them";
        b.of(where, any, "none", "tell 'parts2;plain0 0 1;paint0 0;' = 3, rule 0 = 2, sitter 0 3 = 2, part 0 2 = 0");
        b.of(where, any, "one at each place", "tell ' parts 2 ; plain 0 0 1 ; paint 0 0 ; ' = 3, rule 0 = 2, sitter 0 3 = 2");
        b.of(where, any, "150 ahead", "152 times feed 32, tape 'parts2;', text = 1");
        b.of(where, any, "150 between", "tape 'parts', 153 times feed 32, tape '2;', text = 1, rule 0 = 2");
        b.of(where, any, "150 behind", "tape 'parts 2;', 152 times feed 32, text = 1, rule 0 = 2");
        b.of(where, any, "160 and nothing else", "160 times feed 32, text = 0");
        String one = "(one at least between two NAMES, between two NUMBERS; else none is needed)";
        b.of(where, one, "two NAMES without a blank are one", "tell 'parts 2;plainplain 0 0;' = -18, fault = 2");
        b.of(where, one, "two NAMES with a blank are two", "tell 'parts 2;plain plain 0 0;' = -24, fault = 2");
        b.of(where, one, "two NUMBERS without a blank are one", "tell 'plain 00;' = -18, fault = 2");
        b.of(where, one, "two NUMBERS with a blank are two", "tell 'plain 0 0;' = 1, fault = 0");
        b.of(where, one, "1 2 are two days, 12 is none",
                "tell 'plain 0 0 1 2;' = 1, sitter 0 3 = 6, tell 'plain 0 0 12;' = -20, fault = 3");
        b.of(where, one, "none between a NAME and a NUMBER, a NUMBER and the sign, the sign and a NAME",
                "tell 'bond0 1;forger;forger4 ;' = -34, fault = 6, tell 'twin5 9;forger0;' = 2");
        b.of(where, one, "none between a NUMBER and a NAME", "tell 'parts 2parts;' = -17, fault = 2");
    }

    private static void longTokens(Boundaries b) {
        String where = "Terms";
        String words = "TOKENS, each as long as may be";
        b.of(where, words, "a NAME with a letter more", "tell 'partss 2;' = -10, fault = 2");
        b.of(where, words, "a NAME ends ahead of a NUMBER", "tell 'parts2;' = 1");
        b.of(where, words, "a NAME of 160 letters", "160 times feed 97, text = -10, fault = 2");
        b.of(where, words, "a NUMBER of three figures is not one of two and one of one", "tell 'plain 001;' = -16, fault = 1");
        b.of(where, NUMBERS, "one",
                "tell 'parts 2;' = 1, rule 0 = 2, tell 'worth 0 9;' = 1, part 0 0 = 9, tell 'worth 0 0;' = 1, part 0 0 = 0");
        b.of(where, NUMBERS, "two", "tell 'parts 02;' = 1, rule 0 = 2, tell 'worth 00 09;' = 1, part 0 0 = 9");
        b.of(where, NUMBERS, "two, the first of which counts ten times",
                "tell 'worth 0 10;' = -18, fault = 3, tell 'worth 0 99;' = -18, fault = 3");
        b.of(where, NUMBERS, "three", "tell 'parts 002;' = -16, fault = 1, tell 'worth 0 000;' = -18, fault = 1");
        b.of(where, NUMBERS, "150", "tape 'worth 0 ', 151 times feed 48, feed 59 = 160, text = -18, fault = 1");
    }

    private static void bytesOfTokens(Boundaries b) {
        String where = "Terms";
        b.of(where, "NAMES (a .. z)", "a and z, and what lies beside them",
                "feed 97 = 1, text = -10, fault = 2, feed 122 = 1, text = -10, fault = 2",
                "feed 96 = 1, text = -10, fault = 1, feed 123 = 1, text = -10, fault = 1");
        b.of(where, "NAMES (a .. z)", "no capitals",
                "feed 65 = 1, text = -10, fault = 1, feed 90 = 1, text = -10, fault = 1, tell 'Parts 2;' = -10, fault = 1");
        b.of(where, NUMBERS, "0 and 9, and what lies beside them",
                "tell 'worth 0 0;' = 1, tell 'worth 0 9;' = 1, tell 'worth 0 /;' = -18, fault = 1, tell 'worth 0 :;' = -18",
                "fault = 1");
        b.of(where, "the sign ;", "it alone, not what lies beside it",
                "tell 'parts 2;' = 1, tell 'parts 2:' = -17, fault = 1, tell 'parts 2<' = -17, fault = 1");
        b.of(where, "(every other byte is no TOKEN)", "each byte alone", eachByte("", "", 0, 0));
        b.of(where, "(every other byte is no TOKEN)", "each byte behind a NAME", eachByte("parts", "2;", 5, 1));
        b.of(where, "(every other byte is no TOKEN)", "each byte behind a NUMBER", eachByte("parts 2", ";", 7, 2));
        b.of(where, "(every other byte is no TOKEN)", "each byte behind the sign", eachByte("parts 2;", "", 8, 3));
    }

    /** Each byte between two pieces of a text: behind nothing (0), a NAME (1), a NUMBER (2), the sign (3). */
    private static String[] eachByte(String ahead, String behind, int place, int behindWhat) {
        List<String> lines = new ArrayList<>();
        for (int c = 0; c < 128; c++) {
            boolean letter = c >= 'a' && c <= 'z';
            boolean figure = c >= '0' && c <= '9';
            int fault = c == ' ' ? 0 : letter || figure || c == ';' ? 2 : 1;
            int at = place;
            if (behindWhat == 1 && letter) {
                at = 0;
            } else if (behindWhat == 1 && figure) {
                // 02 is 2, the others are 12 to 92.
                fault = c == '0' ? 0 : 3;
            } else if (behindWhat == 2 && figure) {
                at = place - 1;
                fault = 3;
            } else if (behindWhat == 2 && c == ';') {
                at = place + 1;
            }
            int lineCount = ahead.isEmpty() ? 0 : 1;
            lines.add("new, tape '" + ahead + "', feed " + c + " = " + (place + 1) + ", tape '" + behind + "'");
            lines.add("text = " + (fault == 0 ? lineCount : -10 - at) + ", fault = " + fault);
        }
        return lines.toArray(new String[0]);
    }
}
