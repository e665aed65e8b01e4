import java.util.ArrayList;
import java.util.List;

/** The boundaries of what a text tells, line by line, and of its FAULTS. */
public final class BoundaryTextTest {
    private static final String WHERE = "Terms";
    /** No TOKEN, one too long, the end, a NAME, a NUMBER out of all bounds, the sign, lines with FAULTS of their own. */
    private static final String[] BEHIND = {"$", " 000", "", " judge", " 99", ";", ";parts 2;parts 2;", " 0 ;worth 0 1;worth 0 1;",
        " 0 0;plain 0 0 1 1;", " 1;bond 1 1;", ";paint 5 4;"};
    private static final String FIRST_MET = "FAULTS, the first met as it is read (a TOKEN is read when the one before has been taken):";

    public static void main(String[] args) {
        Boundaries all = new Boundaries("BoundaryTextTest");
        cases(all);
        all.run();
    }

    static void cases(Boundaries b) {
        lines(b);
        worthLine(b);
        sitterLine(b);
        bondLine(b);
        forgerLine(b);
        paintLine(b);
        noToken(b);
        noPlace(b);
        theEnd(b);
        outOfBounds(b);
        toldAlready(b);
        tooMany(b);
        notThere(b);
        whichOfTwo(b);
        whatIsTaken(b);
    }

    private static void lines(Boundaries b) {
        String words = "text: { line } line: parts N ; | worth N N ; | K N N { N } ; | bond N N ; | forger { N } ; | paint N N ;";
        b.of(WHERE, words, "no line", "text = 0, fault = 0");
        b.of(WHERE, words, "one of each", "tell 'parts 2;worth 0 1;plain 0 0;bond 0 1;forger;paint 0 0;' = 6, fault = 0");
        b.of(WHERE, words, "in any order", "tell 'paint 0 0;forger;bond 0 1;plain 0 0;worth 0 1;parts 2;' = 6, part 0 1 = 1");
        b.of(WHERE, words, "parts: one NUMBER, not none, not two",
                "tell 'parts;' = -15, fault = 2, tell 'parts 2 3;' = -18, fault = 2, tell 'parts 2;' = 1");
        b.of(WHERE, words, "worth: two NUMBERS, not one, not three",
                "tell 'worth 0;' = -17, fault = 2, tell 'worth 0 0 0;' = -20, fault = 2, tell 'worth 0 0;' = 1");
        b.of(WHERE, words, "K: two NUMBERS at least, seven days at most",
                "tell 'twin;' = -14, fault = 2, tell 'twin 0;' = -16, fault = 2, tell 'twin 0 0;' = 1",
                "tell 'twin 0 0 0 1 2 3 4 5 6;' = 1, tell 'twin 0 0 0 1 2 3 4 5 6 0;' = -33, fault = 4");
        b.of(WHERE, words, "bond: two NUMBERS, not one, not three",
                "tell 'bond;' = -14, fault = 2, tell 'bond 0;' = -16, fault = 2, tell 'bond 0 1 2;' = -19, fault = 2",
                "tell 'bond 0 1;' = 1");
        b.of(WHERE, words, "forger: no NUMBER, five at most",
                "tell 'forger;' = 1, forger 0 = 0, tell 'plain0 0;plain0 0;plain0 0;plain0 0;plain0 0;forger 0 1 2 3 4;' = 6",
                "forger 0 = 31",
                "tell 'forger 0 1 2 3 4 0;' = -27, fault = 4");
        b.of(WHERE, words, "paint: two NUMBERS, not one, not three",
                "tell 'paint;' = -15, fault = 2, tell 'paint 0;' = -17, fault = 2, tell 'paint 0 0 0;' = -20, fault = 2");
        b.of(WHERE, "K: plain | twin | shadow | stranger", "each of them",
                "tell 'plain 0 0;twin 0 0;shadow 0 0;stranger 0 0;' = 4, sitter 0 0 = 0, sitter 1 0 = 1, sitter 2 0 = 2",
                "sitter 3 0 = 3");
        b.of(WHERE, "PARTS 0 on (2 to 6; 4 at first)", "in a text 1 and 2, 6 and 7",
                "tell 'parts 1;' = -16, fault = 3, tell 'parts 2;' = 1, rule 0 = 2, tell 'parts 6;' = 1, rule 0 = 6",
                "tell 'parts 7;' = -16, fault = 3, tell 'parts 0;' = -16, fault = 3, rule 0 = 6");
        b.of(WHERE, "PARTS 0 on (2 to 6; 4 at first)", "no line that tells them",
                "tell 'parts 6;' = 1, tell 'plain 0 0;' = 1, rule 0 = 4");
    }

    private static void worthLine(Boundaries b) {
        String words = "worth: a PART (0 to 5), its WORTH.";
        b.of(WHERE, words, "PARTS 0 and 5",
                "tell 'parts 6;worth 0 2;worth 5 3;' = 3, part 0 0 = 2, part 5 0 = 3, part 4 0 = 1");
        b.of(WHERE, words, "PART 6", "tell 'parts 6;worth 6 2;' = -24, fault = 3");
        b.of(WHERE, words, "a WORTH of 0 and of 9", "tell 'worth 0 0;worth 1 9;' = 2, part 0 0 = 0, part 1 0 = 9");
        b.of(WHERE, words, "a WORTH of 10", "tell 'worth 0 10;' = -18, fault = 3");
        b.of(WHERE, words, "each of six PARTS",
                "tell 'parts 6;worth 0 0;worth 1 2;worth 2 4;worth 3 6;worth 4 8;worth 5 9;' = 7, count 6 = 29");
    }

    private static void sitterLine(Boundaries b) {
        String words = "K: a SITTER more: MIEN, ASKS, the days on which he is FREE (0 to 6).";
        b.of(WHERE, words, "a MIEN of 0 and of 5", "tell 'plain 0 1;plain 5 1;' = 2, sitter 0 1 = 0, sitter 1 1 = 5");
        b.of(WHERE, words, "a MIEN of 6", "tell 'plain 6 1;' = -16, fault = 3");
        b.of(WHERE, words, "ASKS of 0 and of 9", "tell 'plain 1 0;plain 1 9;' = 2, sitter 0 2 = 0, sitter 1 2 = 9");
        b.of(WHERE, words, "ASKS of 10", "tell 'plain 1 10;' = -18, fault = 3");
        b.of(WHERE, words, "FREE on no day", "tell 'plain 1 1;' = 1, sitter 0 3 = 0");
        b.of(WHERE, words, "FREE on days 0 and 6", "tell 'plain 1 1 0;plain 1 1 6;' = 2, sitter 0 3 = 1, sitter 1 3 = 64");
        b.of(WHERE, words, "FREE on all seven, told backwards", "tell 'plain 1 1 6 5 4 3 2 1 0;' = 1, sitter 0 3 = 127");
        b.of(WHERE, words, "day 7", "tell 'plain 1 1 7;' = -20, fault = 3, tell 'plain 1 1 0 6 7;' = -24, fault = 3");
        b.of(WHERE, words, "days of one are not those of another",
                "tell 'plain 1 1 0 1;twin 1 1;' = 2, sitter 0 3 = 3, sitter 1 3 = 0");
    }

    private static void bondLine(Boundaries b) {
        String words = "bond: two PARTS more (0 to 5).";
        b.of(WHERE, words, "PARTS 0 and 5, both ways",
                "tell 'parts 6;bond 0 5;bond 5 0;' = 3, bond 0 0 = 0, bond 0 1 = 5, bond 1 0 = 5, bond 1 1 = 0");
        b.of(WHERE, words, "PART 6 as the first", "tell 'parts 6;bond 6 0;' = -23, fault = 3");
        b.of(WHERE, words, "PART 6 as the second", "tell 'parts 6;bond 0 6;' = -25, fault = 3");
        b.of(WHERE, words, "the same two once more", "tell 'bond 0 1;bond 0 1;' = 2, rule 2 = 2, bond 1 0 = 0, bond 1 1 = 1");
        b.of(WHERE, "BONDS (5 at most): pairs of PARTS.", "five of them",
                "tell 'bond 0 1;bond 1 2;bond 2 3;bond 3 0;bond 0 2;' = 5, rule 2 = 5",
                "bond 4 0 = 0, bond 4 1 = 2, bond 5 0 = BAD");
    }

    private static void forgerLine(Boundaries b) {
        String words = "forger: a FORGER more: SITTERS (0 to 4).";
        String five = "plain0 0;plain0 0;plain0 0;plain0 0;plain0 0;";
        b.of(WHERE, words, "nobody", "tell 'forger;' = 1, forger 0 = 0");
        b.of(WHERE, words, "SITTERS 0 and 4",
                "tell '" + five + "forger 0;forger 4;forger 4 0;' = 8, forger 0 = 1, forger 1 = 16, forger 2 = 17");
        b.of(WHERE, words, "SITTER 5", "tell '" + five + "forger 5;' = -62, fault = 3, tell 'forger 5;' = -17, fault = 3");
        b.of(WHERE, words, "whom one did not know is not told of the next one",
                "tell 'plain 0 0;forger 0;forger;' = 3, forger 0 = 1, forger 1 = 0");
        b.of(WHERE, "FORGERS (4 at most): SITTERS whom one did not know (bits).", "four of them",
                "tell 'forger;forger;forger;plain 0 0;forger 0;' = 5, rule 3 = 4, forger 3 = 1, forger 4 = BAD");
    }

    private static void paintLine(Boundaries b) {
        String words = "paint: a PART, a SITTER: a LAYER more (as by paint(), free or not).";
        b.of(WHERE, words, "PARTS 0 and 5, SITTERS 0 and 4",
                "tell 'parts6;plain0 0;plain0 0;plain0 0;plain0 0;plain0 0;paint 0 4;paint 5 0;' = 8, part 0 2 = 4",
                "part 5 2 = 0");
        b.of(WHERE, words, "PART 6", "tell 'parts 6;plain 0 0;paint 6 0;' = -34, fault = 3");
        b.of(WHERE, words, "SITTER 5", "tell 'plain0 0;plain0 0;plain0 0;plain0 0;plain0 0;paint 0 5;' = -63, fault = 3");
        b.of(WHERE, words, "who is FREE on no day", "tell 'plain 0 0;paint 3 0;' = 2, part 3 2 = 0");
        b.of(WHERE, words, "he is not THE LAST, no DAY goes, nobody earns",
                "tell 'plain 0 0;paint 3 0;' = 2, rule 5 = NONE, rule 4 = 0, sitter 0 4 = 0");
        b.of(WHERE, words, "four LAYERS, in their order",
                "tell 'plain 0 0;plain 0 0;paint 3 1;paint 3 0;paint 3 0;paint 3 1;' = 6, part 3 1 = 4",
                "layer 3 0 = 1, layer 3 1 = 0, layer 3 2 = 0, layer 3 3 = 1, layer 3 4 = BAD");
    }

    /** A text with a FAULT; where it is met ahead of the end, also with each other FAULT right behind it. */
    private static void refused(Boundaries b, String words, String what, String text, int place, int fault) {
        String answers = " = " + (-10 - place) + ", fault = " + fault;
        b.of(WHERE, words, what, "tell '" + text + "'" + answers + ", count 2 = 0, rule 0 = 4, rule 1 = 0");
        if (fault < 6 && place < text.length()) {
            List<String> lines = new ArrayList<>();
            for (String behind : BEHIND) {
                lines.add("new, tell '" + text.substring(0, behindToken(text, place)) + behind + "'" + answers);
            }
            b.of(WHERE, FIRST_MET, what + ", whatever comes behind", lines.toArray(new String[0]));
        }
    }

    private static int behindToken(String text, int place) {
        int end = place + 1;
        boolean letter = Character.isLetter(text.charAt(place));
        boolean figure = Character.isDigit(text.charAt(place));
        while (end < text.length() && (letter && Character.isLetter(text.charAt(end)) || figure && Character.isDigit(text.charAt(end)))) {
            end++;
        }
        return end;
    }

    private static void noToken(Boundaries b) {
        String words = "1 no TOKEN, a NUMBER that is too long (its first byte).";
        refused(b, words, "the first byte of all", "$", 0, 1);
        refused(b, words, "behind blanks", "  $", 2, 1);
        refused(b, words, "behind a NAME", "parts $", 6, 1);
        refused(b, words, "within a NAME", "forger;for$ger;", 7, 2);
        refused(b, words, "behind a NUMBER", "parts 2$", 7, 1);
        refused(b, words, "between two NUMBERS", "plain 0 $ 0;", 8, 1);
        refused(b, words, "among the days", "plain 0 0 1 -;", 12, 1);
        refused(b, words, "among a forger's SITTERS", "forger $;", 7, 1);
        refused(b, words, "behind a line", "parts 2;$", 8, 1);
        refused(b, words, "the first one of two", "parts 2;#$", 8, 1);
        refused(b, words, "three figures: the first of them", "parts 002;", 6, 1);
        refused(b, words, "three figures where a line begins", "parts 2;002;", 8, 1);
        refused(b, words, "three figures where the sign is due", "parts 2 002", 8, 1);
        refused(b, words, "three figures as the second NUMBER", "worth 0 001;", 8, 1);
        refused(b, words, "three figures among the days", "plain 0 0 1 002;", 12, 1);
        refused(b, words, "three figures among a forger's SITTERS", "forger 000;", 7, 1);
        refused(b, words, "three figures behind a bond's first PART", "bond 0 001;", 7, 1);
        refused(b, words, "three figures as a paint's SITTER", "plain 0 0;paint 0 000;", 18, 1);
    }

    private static void noPlace(Boundaries b) {
        String words = "2 a TOKEN that can not stand there (a NAME that begins no line; or the end: the length).";
        for (String name : new String[] {"judge", "p", "part", "partss", "plai", "plains", "twi", "twins", "shado", "shadows",
            "strange", "strangers", "bon", "bonds", "forge", "forgers", "pain", "paints", "wort", "worths", "n", "k"}) {
            refused(b, words, "a NAME that begins no line: " + name, "forger;" + name + " 2;", 7, 2);
        }
        for (String name : new String[] {"parts", "worth", "plain", "twin", "shadow", "stranger", "bond", "forger", "paint"}) {
            List<String> lines = new ArrayList<>();
            for (int i = 0; i < name.length(); i++) {
                lines.add("new, tell 'forger;" + name.substring(0, i) + "q" + name.substring(i + 1) + " 2 2;' = -17, fault = 2");
            }
            b.of(WHERE, words, "a NAME that begins no line: " + name + " but for one letter", lines.toArray(new String[0]));
        }
        refused(b, words, "a NUMBER begins no line", "2;", 0, 2);
        refused(b, words, "the sign begins no line", ";", 0, 2);
        refused(b, words, "the sign behind a line", "parts 2;;", 8, 2);
        refused(b, words, "a NAME that begins a line, where a NUMBER is due", "parts parts 2;", 6, 2);
        refused(b, words, "a NAME among the days", "plain 0 0 1 twin;", 12, 2);
        refused(b, words, "a NAME among a forger's SITTERS", "forger forger;", 7, 2);
        refused(b, words, "a NAME where the sign is due", "parts 2 forger;", 8, 2);
        refused(b, words, "the sign where a worth's PART is due", "worth ;", 6, 2);
        refused(b, words, "the sign where a worth is due", "worth 0 ;", 8, 2);
        refused(b, words, "the sign where ASKS are due", "stranger 0;", 10, 2);
        refused(b, words, "the sign where a bond's second PART is due", "bond 3 ;", 7, 2);
        refused(b, words, "the sign where a paint's SITTER is due", "plain 0 0;paint 0;", 17, 2);
        refused(b, words, "a NUMBER where the sign is due", "bond 0 1 2;", 9, 2);
    }

    /** A text of all lines, cut off behind each TOKEN: the end can stand behind a line's sign alone. */
    private static void theEnd(Boundaries b) {
        String words = "2 a TOKEN that can not stand there (a NAME that begins no line; or the end: the length).";
        String text = "parts 2;worth 0 1;twin 0 0 1 2;bond 0 1;forger 0 ;paint 1 0;";
        int lines = 0;
        for (int n = 1; n <= text.length(); n++) {
            boolean inName = Character.isLetter(text.charAt(n - 1)) && Character.isLetter(text.charAt(Math.min(n, text.length() - 1)));
            if (text.charAt(n - 1) == ';') {
                lines++;
                int answer = lines;
                b.of(WHERE, words, "the end behind \"" + text.substring(0, n) + "\"",
                        "tell '" + text.substring(0, n) + "' = " + answer + ", fault = 0");
            } else if (!inName) {
                refused(b, words, "the end behind \"" + text.substring(0, n) + "\"", text.substring(0, n), n, 2);
            }
        }
        refused(b, words, "the end behind blanks", "parts 2   ", 10, 2);
    }

    private static void outOfBounds(Boundaries b) {
        String words = "3 a NUMBER out of its bounds (bond: alike with the first one).";
        refused(b, words, "parts 1", "parts 1;", 6, 3);
        refused(b, words, "parts 7", "parts 7;", 6, 3);
        refused(b, words, "parts 99", "parts 99;", 6, 3);
        refused(b, words, "worth of PART 6", "worth 6 1;", 6, 3);
        refused(b, words, "worth 10", "worth 5 10;", 8, 3);
        refused(b, words, "MIEN 6", "shadow 6 0;", 7, 3);
        refused(b, words, "ASKS 10", "shadow 5 10;", 9, 3);
        refused(b, words, "day 7", "shadow 5 9 7;", 11, 3);
        refused(b, words, "day 10, behind others", "shadow 5 9 0 6 10;", 15, 3);
        refused(b, words, "bond's first PART 6", "bond 6 1;", 5, 3);
        refused(b, words, "bond's second PART 6", "bond 5 6;", 7, 3);
        refused(b, words, "bond: alike with the first one", "bond 0 0;", 7, 3);
        refused(b, words, "bond: alike with the first one, told by two figures", "bond 5 05;", 7, 3);
        refused(b, words, "a forger's SITTER 5", "forger 5;", 7, 3);
        refused(b, words, "a forger's SITTER 5, behind others", "forger 4 0 5;", 11, 3);
        refused(b, words, "a paint's PART 6", "paint 6 0;", 6, 3);
        refused(b, words, "a paint's SITTER 5", "paint 5 5;", 8, 3);
        b.of(WHERE, words, "bond: not alike by one", "tell 'bond 0 1;bond 1 0;' = 2, fault = 0");
    }

    private static void toldAlready(Boundaries b) {
        String words = "4 parts for the second time (its NAME); a PART of worth, a day, a SITTER of a forger told already (it).";
        refused(b, words, "parts for the second time, the same number", "parts 4;parts 4;", 8, 4);
        refused(b, words, "parts for the second time, behind others", "parts 2;forger; parts 3;", 16, 4);
        refused(b, words, "a PART of worth told already", "worth 0 1;worth 0 2;", 16, 4);
        refused(b, words, "the 6th PART of worth told already", "worth 5 1;worth 0 1;worth 05 1;", 26, 4);
        refused(b, words, "a day told already", "plain 0 0 0 0;", 12, 4);
        refused(b, words, "day 6 told already", "plain 0 0 6 1 06;", 14, 4);
        refused(b, words, "a SITTER of a forger told already", "forger 0 0;", 9, 4);
        refused(b, words, "SITTER 4 of a forger told already", "forger 4 1 4;", 11, 4);
        b.of(WHERE, words, "parts once behind a text that told them", "tell 'parts 2;' = 1, tell 'parts 3;' = 1, rule 0 = 3");
        b.of(WHERE, words, "parts once behind a text that was refused",
                "tell 'parts 2;$' = -18, fault = 1, tell 'parts 3;' = 1, rule 0 = 3");
        b.of(WHERE, words, "worth of one PART behind a text that told it",
                "tell 'worth 2 5;' = 1, tell 'worth 2 6;' = 1, part 2 0 = 6");
        b.of(WHERE, words, "worth of another PART", "tell 'worth 2 5;worth 3 5;' = 2, fault = 0");
        b.of(WHERE, words, "one day of two SITTERS, one SITTER of two FORGERS",
                "tell 'plain 0 0 3;plain 0 0 3;forger 1;forger 1;' = 4, fault = 0");
        b.of(WHERE, words, "a bond, a paint told already",
                "tell 'plain 0 0;bond 0 1;bond 0 1;paint 0 0;paint 0 0;' = 5, fault = 0");
    }

    private static void tooMany(Boundaries b) {
        String words = "5 the 6th SITTER, the 6th bond, the 5th forger (its NAME); a paint of a PART that has 4 LAYERS (the PART).";
        String five = "plain0 0;twin0 0;shadow0 0;stranger0 0;plain0 0;";
        b.of(WHERE, words, "five SITTERS", "tell '" + five + "' = 5, fault = 0, rule 1 = 5, sitter 4 0 = 0, sitter 5 0 = BAD");
        for (String kind : new String[] {"plain", "twin", "shadow", "stranger"}) {
            refused(b, words, "the 6th SITTER: " + kind, five + " " + kind + " 0 0;", 49, 5);
        }
        b.of(WHERE, words, "five bonds", "tell 'bond 0 1;bond 0 1;bond 0 1;bond 0 1;bond 0 1;' = 5, fault = 0, rule 2 = 5");
        refused(b, words, "the 6th bond", "bond 0 1;bond 0 1;bond 0 1;bond 0 1;bond 0 1;bond 0 1;", 45, 5);
        b.of(WHERE, words, "four forgers", "tell 'forger;forger;forger;forger;' = 4, fault = 0, rule 3 = 4");
        refused(b, words, "the 5th forger", "forger;forger;forger;forger;forger;", 28, 5);
        String layers = "plain 0 0;paint 1 0;paint 1 0;paint 1 0;paint 1 0;";
        b.of(WHERE, words, "four LAYERS, and one of another PART",
                "tell '" + layers + "paint 0 0;' = 6, fault = 0, part 1 1 = 4");
        refused(b, words, "the 5th LAYER", layers + "paint 1 0;", 56, 5);
        refused(b, words, "the 5th LAYER of PART 5", "parts 6;plain 0 0;paint 5 0;paint 5 0;paint 5 0;paint 5 0;paint 05 0;", 64, 5);
        b.of(WHERE, words, "as many once more in the next text",
                "tell '" + layers + "' = 5, tell '" + layers + "' = 5, part 1 1 = 4, rule 1 = 1");
    }

    private static void notThere(Boundaries b) {
        String words = "Behind all (the length): 6 a PART, a SITTER that there is not.";
        b.of(WHERE, words, "the last PART and the first that is not, of worth",
                "tell 'worth 3 1;' = 1, fault = 0, tell 'worth 4 1;' = -20, fault = 6",
                "tell 'parts 2;worth 1 1;' = 2, tell 'parts 2;worth 2 1;' = -28, fault = 6, tell 'worth 5 1;parts 6;' = 2",
                "fault = 0");
        b.of(WHERE, words, "the last PART and the first that is not, of bond",
                "tell 'bond 3 0;bond 0 3;' = 2, tell 'bond 4 0;' = -19, fault = 6",
                "tell 'bond 0 4;' = -19, fault = 6, tell 'parts 5;bond 0 4;' = 2, tell 'parts 2;bond 1 2;' = -27, fault = 6");
        b.of(WHERE, words, "the last PART and the first that is not, of paint",
                "tell 'plain 0 0;paint 3 0;' = 2, tell 'plain 0 0;paint 4 0;' = -30, fault = 6",
                "tell 'plain 0 0;paint 4 0;parts 5;' = 3, part 4 2 = 0");
        b.of(WHERE, words, "the last SITTER and the first that is not, of forger",
                "tell 'plain 0 0;forger 0;' = 2, tell 'plain 0 0;forger 1;' = -29, fault = 6",
                "tell 'forger 0;' = -19, fault = 6, tell 'forger 1 0;plain 0 0;plain 0 0;' = 3, forger 0 = 3");
        b.of(WHERE, words, "the last SITTER and the first that is not, of paint",
                "tell 'plain 0 0;paint 0 0;' = 2, tell 'plain 0 0;paint 0 1;' = -30, fault = 6",
                "tell 'paint 0 0;' = -20, fault = 6, tell 'paint 0 1;plain 0 0;plain 0 0;' = 3, part 0 2 = 1");
        b.of(WHERE, words, "one of several, not the last one told",
                "tell 'plain 0 0;worth 4 1;worth 0 1;' = -40, fault = 6",
                "tell 'plain 0 0;forger 1 0;paint 0 0;' = -41, fault = 6, tell 'plain 0 0;paint 0 4;paint 0 0;' = -40",
                "fault = 6");
        b.of(WHERE, words, "the length is that of all THE TAPE, blanks too", "tell 'worth 5 1;   ' = -23, fault = 6");
        b.of(WHERE, words, "PARTS and SITTERS that there were ahead of the text are none",
                "tell 'parts 6;plain 0 0;' = 2, tell 'worth 5 1;' = -20, fault = 6",
                "tell 'paint 0 0;' = -20, fault = 6, rule 0 = 6, rule 1 = 1");
    }

    private static void whichOfTwo(Boundaries b) {
        refused(b, FIRST_MET, "1 ahead of 2: three figures begin no line, but are no TOKEN", "123;", 0, 1);
        refused(b, FIRST_MET, "1 ahead of 3: 123 parts", "parts 123;", 6, 1);
        refused(b, FIRST_MET, "1 ahead of 4: a day told already, in three figures", "plain 0 0 1 001;", 12, 1);
        refused(b, FIRST_MET, "2 ahead of 1: no line's NAME, then no TOKEN", "judge$", 0, 2);
        refused(b, FIRST_MET, "2 ahead of 1: the sign too early, then no TOKEN", "worth 0;$", 7, 2);
        refused(b, FIRST_MET, "3 ahead of 1: a NUMBER out of its bounds, then no TOKEN", "parts 7$", 6, 3);
        refused(b, FIRST_MET, "3 ahead of 1: a bond's second PART alike, then no TOKEN", "bond 1 1$", 7, 3);
        refused(b, FIRST_MET, "3 ahead of 2: a NUMBER out of its bounds, then the end", "parts 7", 6, 3);
        refused(b, FIRST_MET, "3 ahead of 6: alike PARTS that there are not", "bond 5 5;", 7, 3);
        refused(b, FIRST_MET, "4 ahead of 1: parts for the second time, then no TOKEN", "parts 2;parts$", 8, 4);
        refused(b, FIRST_MET, "4 ahead of 2: parts for the second time, then the sign", "parts 2;parts;", 8, 4);
        refused(b, FIRST_MET, "4 ahead of 3: parts for the second time, then 7", "parts 2;parts 7;", 8, 4);
        refused(b, FIRST_MET, "4 ahead of 3: a worth's PART told already, then 10", "worth 0 1;worth 0 10;", 16, 4);
        refused(b, FIRST_MET, "4 ahead of 1: a worth's PART told already, then no TOKEN", "worth 0 1;worth 0$", 16, 4);
        refused(b, FIRST_MET, "3 ahead of 4: parts out of its bounds, then for the second time", "parts 7;parts 2;", 6, 3);
        refused(b, FIRST_MET, "4 ahead of 1: a day told already, then no TOKEN", "plain 0 0 1 1$", 12, 4);
        refused(b, FIRST_MET, "4 ahead of 3: a forger's SITTER told already, then 5", "forger 0 0 5;", 9, 4);
        refused(b, FIRST_MET, "3 ahead of 4: a forger's SITTER 5, then one told already", "forger 0 5 0;", 9, 3);
        String five = "plain0 0;twin0 0;shadow0 0;stranger0 0;plain0 0;";
        refused(b, FIRST_MET, "5 ahead of 1: the 6th SITTER, then no TOKEN", five + "twin$", 48, 5);
        refused(b, FIRST_MET, "5 ahead of 2: the 6th SITTER, then the end", five + "twin", 48, 5);
        refused(b, FIRST_MET, "5 ahead of 3: the 6th SITTER, then MIEN 6", five + "twin 6 0;", 48, 5);
        refused(b, FIRST_MET, "5 ahead of 3: the 6th bond, then PART 6", "bond0 1;bond0 1;bond0 1;bond0 1;bond0 1;bond6 1;", 40, 5);
        refused(b, FIRST_MET, "5 ahead of 4: the 5th forger, then one told already", "forger;forger;forger;forger;forger 0 0;", 28, 5);
        refused(b, FIRST_MET, "3 ahead of 5: a MIEN of the 5th SITTER, then the 6th", "twin0 0;twin0 0;twin0 0;twin0 0;twin6 0;twin0 0;", 36, 3);
        String layers = "plain0 0;paint1 0;paint1 0;paint1 0;paint1 0;";
        refused(b, FIRST_MET, "5 ahead of 1: the 5th LAYER's PART, then no TOKEN", layers + "paint 1$", 51, 5);
        refused(b, FIRST_MET, "5 ahead of 2: the 5th LAYER's PART, then the end", layers + "paint 1", 51, 5);
        refused(b, FIRST_MET, "5 ahead of 3: the 5th LAYER's PART, then SITTER 9", layers + "paint 1 9;", 51, 5);
        refused(b, FIRST_MET, "5 ahead of 6: the 5th LAYER of a PART that there is not", "paint5 0;paint5 0;paint5 0;paint5 0;paint 5 0;", 42, 5);
        refused(b, FIRST_MET, "3 ahead of 5: a PART out of its bounds has no LAYERS", layers + "paint 6 0;", 51, 3);
        refused(b, FIRST_MET, "1 ahead of 6, though told behind it", "worth 5 1;$", 10, 1);
        refused(b, FIRST_MET, "2 ahead of 6, though told behind it", "forger 0;judge", 9, 2);
        refused(b, FIRST_MET, "3 ahead of 6, though told behind it", "bond 0 5;parts 1;", 15, 3);
        refused(b, FIRST_MET, "4 ahead of 6, though told behind it", "parts 2;bond 0 5;parts 6;", 17, 4);
    }

    private static void whatIsTaken(Boundaries b) {
        String all = "A text that is taken tells all, in place of what there was (what no line tells is as at first); nothing is SEEN;"
                + " IMAGES are gone; SHEETS stay.";
        String before = "tell 'parts 3;worth 2 7;shadow 3 4 0 1 2 3;twin 1 1 5;bond 0 2;forger 1;paint 1 1;' = 7, go 5 = 4, keep 0 = 0, keep 1 = 0";
        String more = "see 0 1 yes = 1, see 1 2 no = 2, sheet 0 0 7 = 1, sheet 3 2 2 = 1, lay 3 0 1 = 1, read 2 0 0 1 = 0, torn = 1";
        b.of(WHERE, all, "PARTS and WORTHS that no line tells",
                before,
                more,
                "tell 'plain 0 0;' = 1, rule 0 = 4, part 2 0 = 1, count 6 = 4");
        b.of(WHERE, all, "LAYERS that no line tells",
                before,
                more,
                "tell 'parts 3;plain 0 0;plain 0 0;' = 3, count 4 = 0, rule 6 = 7, part 1 1 = 0");
        b.of(WHERE, all, "SITTERS: those of before are gone", before, more, "tell 'stranger 2 3;' = 1, rule 1 = 1",
                "sitter 0 0 = 3, sitter 0 1 = 2, sitter 0 2 = 3, sitter 0 3 = 0, sitter 0 4 = 0, sitter 1 0 = BAD");
        b.of(WHERE, all, "EARNED is 0, DAY 0, nobody THE LAST", before, more, "tell 'parts 3;shadow 3 4 0;twin 1 1 5;' = 3",
                "sitter 0 4 = 0, sitter 1 4 = 0, rule 4 = 0, rule 5 = NONE, go 1 = 1, rule 5 = 0");
        b.of(WHERE, all, "BONDS and FORGERS that no line tells",
                before,
                more,
                "tell 'parts 3;' = 1, rule 2 = 0, rule 3 = 0, bond 0 0 = BAD, forger 0 = BAD");
        b.of(WHERE, all, "a text without a line",
                before,
                more,
                "text = 0, rule 0 = 4, rule 1 = 0, rule 2 = 0, rule 3 = 0, rule 4 = 0, rule 5 = NONE, rule 6 = 15, count 6 = 4");
        b.of(WHERE, all, "nothing is SEEN",
                before,
                more,
                "text = 0, count 0 = 0, forget 1 = BAD, forget 0 = 0, see 0 1 yes = 1");
        b.of(WHERE, all, "IMAGES are gone",
                before,
                more,
                "text = 0, count 1 = 0, back 0 = STATE, back 1 = STATE, keep 0 = 0, keep 1 = 0");
        b.of(WHERE, all, "SHEETS stay, and what torn() tells",
                before,
                more,
                "tell 'plain 0 0;plain 0 0;' = 2, count 3 = 7, torn = 1",
                "read 3 2 0 1 = 1, part 1 2 = 0, lay 0 6 1 = 1, lay 0 7 1 = -12");
        b.of(WHERE, "EARNED of each (0 at first).", "of one more than there were",
                "tell 'plain 0 0 0;paint 0 0;' = 2, go 3 = 1, sitter 0 4 = 3",
                "tell 'plain 0 0;plain 0 0;' = 2, sitter 0 4 = 0, sitter 1 4 = 0");
        b.of(WHERE, "DAY (0 at first); THE LAST who sat by turns (NONE at first).", "behind a text",
                "tell 'plain 0 0 0;' = 1, rule 4 = 0, rule 5 = NONE",
                "go 8 = 2, rule 4 = 8, rule 5 = 0, tell 'plain 0 0 0;' = 1, rule 4 = 0, rule 5 = NONE");
        List<String> many = new ArrayList<>();
        many.add("tell 'plain 0 0;twin 0 0;bond 0 1;forger;bond 1 2;forger 1;shadow 0 0;bond 2 3;' = 8");
        many.add("sitter 0 0 = 0, sitter 1 0 = 1, sitter 2 0 = 2, bond 0 1 = 1, bond 1 1 = 2, bond 2 1 = 3, forger 0 = 0, forger 1 = 2");
        b.of(WHERE, "What is numbered has its numbers from 0 on, as it comes, where nothing else is told.",
                "SITTERS, BONDS, FORGERS",
                many.toArray(new String[0]));
    }
}
