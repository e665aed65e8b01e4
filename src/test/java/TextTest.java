/** Promises 1 to 5: a new object, THE TAPE, the text and its FAULTS. */
public final class TextTest {
    private static final Due due = new Due("TextTest");

    public static void main(String[] args) {
        aNewObject();
        theTape();
        whatIsTaken();
        tokens();
        faults();
        whatStays();
        due.close();
    }

    private static void aNewObject() {
        PartSitters x = new PartSitters();
        int[] rules = {4, 0, 0, 0, 0, -4, 15};
        int[] counts = {0, 0, 0, -4, 0, 0, 4};
        for (int what = 0; what <= 6; what++) {
            due.is("new rule " + what, x.rule(what), rules[what]);
            due.is("new count " + what, x.count(what), counts[what]);
        }
        for (int p = 0; p < 4; p++) {
            due.is("new worth", x.part(p, 0), 1);
            due.is("new layers", x.part(p, 1), 0);
            due.is("new top", x.part(p, 2), -4);
        }
        for (int k = 0; k < 4; k++) {
            due.is("new sheet", x.lay(k, 0, 1), -11);
        }
        due.is("new fault", x.fault(), 0);
        due.is("new torn", x.torn(), 0);
        due.is("new image 0", x.back(0), -2);
        due.is("new image 1", x.back(1), -2);
    }

    private static void theTape() {
        PartSitters x = new PartSitters();
        due.is("feed(-1)", x.feed(-1), -1);
        due.is("feed(128)", x.feed(128), -1);
        due.is("feed(0)", x.feed(0), 1);
        due.is("feed(127)", x.feed(127), 2);
        due.is("end(3)", x.end(3), -1);
        due.is("end(-1)", x.end(-1), -1);
        due.is("end(1)", x.end(1), 2);
        due.is("bytes", x.count(2), 1);
        due.is("end(1) again", x.end(1), 1);
        due.is("end(0)", x.end(0), 1);
        for (int i = 1; i <= 160; i++) {
            due.is("feed " + i, x.feed(' '), i);
        }
        due.is("feed the 161st", x.feed(' '), -3);
        due.is("feed BAD ahead of FULL", x.feed(200), -1);
        due.is("bytes", x.count(2), 160);
        due.is("only blanks", x.text(), 0);
        due.is("empty then", x.count(2), 0);

        Due.feed(x, "parts 3;parts 3;");
        x.end(8);
        due.is("the first 8 bytes", x.text(), 1);
        due.is("parts", x.rule(0), 3);
    }

    private static void whatIsTaken() {
        PartSitters x = due.told("parts 6;plain 0 0;twin 5 9 0 6;shadow 3 4 0 1 2 3 4 5 6;stranger 1 2 3;"
                + "worth 5 0;bond 5 0;forger;forger 3 1;paint 5 3;paint 5 0;");
        int[][] sitters = {{0, 0, 0, 0, 0, 32}, {1, 5, 9, 65, 0, 0}, {2, 3, 4, 127, 0, 0}, {3, 1, 2, 8, 0, 0}};
        for (int s = 0; s < 4; s++) {
            for (int what = 0; what <= 5; what++) {
                due.is("sitter " + s + " " + what, x.sitter(s, what), sitters[s][what]);
            }
        }
        due.is("forger 0", x.forger(0), 0);
        due.is("forger 1", x.forger(1), 10);
        due.is("bond", x.bond(0, 0), 5);
        due.is("bond", x.bond(0, 1), 0);
        due.is("worth", x.part(5, 0), 0);
        due.is("layer", x.layer(5, 0), 3);
        due.is("layer", x.layer(5, 1), 0);
        // A later line may make what an earlier one names.
        due.is("told ahead", Due.tell(x, "worth 5 2;paint 5 0;forger 0;bond 5 4;parts 6;plain 0 0;"), 6);
        // What no line tells is as at first, IMAGES and what is SEEN are gone, SHEETS stay.
        x.alter(0, 3, 127);
        x.go(5);
        x.keep(0);
        x.see(0, 1, true);
        x.sheet(0, 2, 7);
        due.is("torn ahead", x.read(1, 0, 0, 1), 0);
        Due.feed(x, "twin 1 1;");
        due.is("text", x.text(), 1);
        int[] rules = {4, 1, 0, 0, 0, -4, 15};
        int[] counts = {0, 0, 0, 7, 0, 0, 4};
        for (int what = 0; what <= 6; what++) {
            due.is("rule " + what, x.rule(what), rules[what]);
            due.is("count " + what, x.count(what), counts[what]);
        }
        due.is("earned", x.sitter(0, 4), 0);
        due.is("torn stays", x.torn(), 1);
        due.is("image gone", x.back(0), -2);
        due.is("kept anew", x.keep(0), 0);
        // A text of no lines tells all, too.
        x.see(0, 1, true);
        due.is("no lines", x.text(), 0);
        due.is("nobody", x.rule(1), 0);
        due.is("nothing is seen", x.count(0), 0);
        due.is("no image", x.count(1), 0);
    }

    private static void tokens() {
        PartSitters x = new PartSitters();
        read(x, "", 0, 0);
        read(x, "  parts2;  ", 1, 0);
        read(x, "parts  02 ;plain0 0 0;plain 0 0;", 3, 0);
        read(x, "plain 05 09 06;", 1, 0);
        read(x, "forger;forger ;", 2, 0);
        read(x, "plain 0 00 001;", -21, 1);
        read(x, "parts 123;", -16, 1);
        read(x, "parts 2;123", -18, 1);
        read(x, "parts 2$;", -17, 1);
        read(x, "Parts 2;", -10, 1);
        read(x, "parts\t2;", -15, 1);
        read(x, "\0", -10, 1);
        read(x, "parts 2;\177", -18, 1);
        read(x, "parts ,2;", -16, 1);
        read(x, "parts 2/", -17, 1);
        read(x, "parts 2:", -17, 1);
        read(x, "parts 2;`", -18, 1);
        read(x, "parts 2;{", -18, 1);
        read(x, "parts 2;@", -18, 1);
    }

    private static void faults() {
        PartSitters x = new PartSitters();
        read(x, "part 2;", -10, 2);
        read(x, "partss 2;", -10, 2);
        // One letter is not that of a line's NAME: the first, one between, the last.
        for (String name : new String[] {"parts", "worth", "plain", "twin", "shadow", "stranger", "bond", "forger", "paint"}) {
            for (int i = 0; i < name.length(); i++) {
                read(x, "plain 0 0;" + name.substring(0, i) + "z" + name.substring(i + 1) + " 0 0;", -20, 2);
            }
        }
        read(x, "pa$ts 2;", -10, 2);
        read(x, "plaintwin 0 0;", -10, 2);
        read(x, " plain plain 0 0;", -17, 2);
        read(x, "2;", -10, 2);
        read(x, ";", -10, 2);
        read(x, "parts", -15, 2);
        read(x, "parts ", -16, 2);
        read(x, "parts 2", -17, 2);
        read(x, "parts 2 3;", -18, 2);
        read(x, "parts;", -15, 2);
        read(x, "plain 0;", -17, 2);
        read(x, "plain 0 0 1", -21, 2);
        read(x, "plain 0 0 twin", -20, 2);
        read(x, "forger 0 1  ", -22, 2);
        read(x, "bond 0;", -16, 2);
        read(x, "bond 0 1 2;", -19, 2);
        read(x, "paint 0;", -17, 2);
        read(x, "paint 0 0 0;", -20, 2);
        read(x, "worth 0 0 0;", -20, 2);

        read(x, "parts 1;", -16, 3);
        read(x, "parts 7;", -16, 3);
        read(x, "worth 6 1;", -16, 3);
        read(x, "worth 0 10;", -18, 3);
        read(x, "plain 6 0;", -16, 3);
        read(x, "twin 0 10;", -17, 3);
        read(x, "shadow 0 0 7;", -21, 3);
        read(x, "stranger 0 0 3 99;", -25, 3);
        read(x, "bond 6 1;", -15, 3);
        read(x, "bond 1 6;", -17, 3);
        read(x, "bond 3 03$", -17, 3);
        read(x, "forger 5;", -17, 3);
        read(x, "paint 6 0;", -16, 3);
        read(x, "paint 0 5;", -18, 3);

        read(x, "parts 2;plain 0 0;parts$", -28, 4);
        read(x, "worth 3 1;worth 2 1;worth 3 1;", -36, 4);
        read(x, "worth 3 1;worth 3 10;", -26, 4);
        read(x, "plain 0 0 6 0 6;", -24, 4);
        read(x, "forger 4 0 4;", -21, 4);

        read(x, "twin 1 1;plain 1 1;shadow 1 1;stranger 1 1;twin 1 1;stranger$", -62, 5);
        read(x, "bond 0 1;bond 0 1;bond 0 1;bond 0 1;bond 0 1;bond$", -55, 5);
        read(x, "forger;forger;forger;forger;forger$", -38, 5);
        read(x, "paint 5 0;paint 5 4;paint 5 0;paint 5 0;paint 5$", -56, 5);

        read(x, "plain 0 0;paint 0 1; ", -31, 6);
        read(x, "plain 0 0;paint 4 0;", -30, 6);
        read(x, "parts 2;worth 2 3;", -28, 6);
        read(x, "parts 2;bond 2 0;", -27, 6);
        read(x, "parts 2;bond 0 2;", -27, 6);
        read(x, "forger 0;", -19, 6);
        read(x, "plain 0 0;twin 0 0;forger 2 0;", -40, 6);
        read(x, "forger 0;$", -19, 1);
        read(x, "parts 2;", 1, 0);
    }

    private static void read(PartSitters x, String text, int answer, int fault) {
        PartSitters fresh = new PartSitters();
        due.is("\"" + text + "\"", Due.tell(fresh, text), answer);
        due.is("fault of \"" + text + "\"", fresh.fault(), fault);
        due.is("tape behind \"" + text + "\"", fresh.count(2), 0);
        // Behind other texts it must be read as on a new object.
        if (x.count(2) == 0) {
            due.is("again \"" + text + "\"", Due.tell(x, text), answer);
            due.is("again the fault", x.fault(), fault);
        }
    }

    private static void whatStays() {
        PartSitters x = due.told("parts 3;plain 1 2 0 1;twin 2 3 4;bond 0 1;forger 1;worth 1 4;paint 2 1;");
        x.go(2);
        x.keep(1);
        x.see(0, 1, false);
        String before = State.of(x);
        String[] refused = {"$", "plain", "parts 9;", "parts 2;parts", "paint 0 0;paint 0 0;paint 0 0;paint 0 0;paint 0 0;",
            "worth 5 9;", "worth 1 8;plain 0 0;twin 1 1;bond 1 0;forger 0;paint 0 0;stranger 0 0;forger 4;"};
        int[] faults = {1, 2, 3, 4, 5, 6, 6};
        for (int i = 0; i < refused.length; i++) {
            due.is("refused", Due.tell(x, refused[i]) <= -10 ? 1 : 0, 1);
            due.is("fault", x.fault(), faults[i]);
            String behind = State.of(x);
            due.is("what was told stays", behind.replace("| " + faults[i] + " 0 ", "| 0 0 ").equals(before) ? 1 : 0, 1);
        }
        due.is("image stays", x.keep(1), 1);
        due.is("text", Due.tell(x, "parts 2;"), 1);
        due.is("fault is 0 again", x.fault(), 0);
    }
}
