import java.util.ArrayList;
import java.util.List;
import java.util.regex.Matcher;
import java.util.regex.Pattern;

/** A text, read as 'Terms' say, once more: by one pattern for all TOKENS, into a street of Plain's. */
final class PlainText {
    /** The first FAULT met, and its place. */
    static final class Fault extends Exception {
        private static final long serialVersionUID = 1;
        final int why;
        final int at;

        Fault(int why, int at) {
            super("FAULT " + why + " at " + at);
            this.why = why;
            this.at = at;
        }
    }

    private static final Pattern TOKEN = Pattern.compile("[a-z]+|[0-9]+|;");
    private static final List<String> KINDS = List.of("plain", "twin", "shadow", "stranger");
    private static final int END = -1;
    private final String tape;
    private String token = "";
    private int tokenAt = 0;
    private int behind = 0;

    private int parts = END;
    private final int[] worth = {END, END, END, END, END, END};
    private final List<int[]> sitters = new ArrayList<>();
    private final List<int[]> bonds = new ArrayList<>();
    private final List<Integer> forgers = new ArrayList<>();
    private final List<List<Integer>> layers = new ArrayList<>();
    private final List<Integer> partsNamed = new ArrayList<>();
    private final List<Integer> sittersNamed = new ArrayList<>();
    private int lines = 0;

    PlainText(String tape) throws Fault {
        this.tape = tape;
        for (int p = 0; p < 6; p++) {
            layers.add(new ArrayList<>());
        }
        for (next(); !token.isEmpty(); next()) {
            line();
            lines++;
        }
        boolean partsAre = partsNamed.stream().allMatch(p -> p < howManyParts());
        if (!partsAre || !sittersNamed.stream().allMatch(s -> s < sitters.size())) {
            throw new Fault(6, tape.length());
        }
    }

    int lines() {
        return lines;
    }

    Plain street(List<int[]> seen) {
        Plain street = new Plain(howManyParts(), seen);
        for (int p = 0; p < street.parts; p++) {
            street.worth[p] = worth[p] == END ? 1 : worth[p];
            street.layers.get(p).addAll(layers.get(p));
        }
        street.sitters = sitters.size();
        street.sitter = sitters.toArray(new int[0][]);
        street.bonds = bonds.toArray(new int[0][]);
        street.forgers = forgers.stream().mapToInt(bits -> bits).toArray();
        return street;
    }

    private int howManyParts() {
        return parts == END ? 4 : parts;
    }

    private void next() throws Fault {
        while (behind < tape.length() && tape.charAt(behind) == ' ') {
            behind++;
        }
        tokenAt = behind;
        token = "";
        if (behind < tape.length()) {
            Matcher found = TOKEN.matcher(tape).region(behind, tape.length());
            if (!found.lookingAt() || isFigure(found.group()) && found.group().length() > 2) {
                throw new Fault(1, tokenAt);
            }
            token = found.group();
            behind = found.end();
        }
    }

    private static boolean isFigure(String token) {
        return !token.isEmpty() && Character.isDigit(token.charAt(0));
    }

    private void check(boolean right, int why) throws Fault {
        if (!right) {
            throw new Fault(why, tokenAt);
        }
    }

    private int number(int least, int most) throws Fault {
        next();
        return numberAtHand(least, most);
    }

    private int numberAtHand(int least, int most) throws Fault {
        check(isFigure(token), 2);
        int n = Integer.parseInt(token);
        check(least <= n && n <= most, 3);
        return n;
    }

    private int part() throws Fault {
        int p = number(0, 5);
        partsNamed.add(p);
        return p;
    }

    /** NUMBERS up to the sign, as bits. */
    private int bits(int most) throws Fault {
        List<Integer> told = new ArrayList<>();
        for (next(); !token.equals(";"); next()) {
            int n = numberAtHand(0, most);
            check(!told.contains(n), 4);
            told.add(n);
        }
        return told.stream().mapToInt(n -> 1 << n).sum();
    }

    private void line() throws Fault {
        String name = token;
        if (KINDS.contains(name)) {
            check(sitters.size() < 5, 5);
            sitters.add(new int[] {KINDS.indexOf(name), number(0, 5), number(0, 9), bits(6), 0});
            return;
        }
        if (name.equals("forger")) {
            check(forgers.size() < 4, 5);
            int some = bits(4);
            forgers.add(some);
            for (int s = 0; s < 5; s++) {
                if ((some & 1 << s) != 0) {
                    sittersNamed.add(s);
                }
            }
            return;
        }
        signed(name);
        next();
        check(token.equals(";"), 2);
    }

    /** A line that ends with a sign of its own, up to there. */
    private void signed(String name) throws Fault {
        switch (name) {
            case "parts" -> {
                check(parts == END, 4);
                parts = number(2, 6);
            }
            case "worth" -> {
                int p = part();
                check(worth[p] == END, 4);
                worth[p] = number(0, 9);
            }
            case "bond" -> {
                check(bonds.size() < 5, 5);
                int p = part();
                int q = part();
                check(p != q, 3);
                bonds.add(new int[] {p, q});
            }
            case "paint" -> {
                int p = part();
                check(layers.get(p).size() < 4, 5);
                int s = number(0, 4);
                sittersNamed.add(s);
                layers.get(p).add(s);
            }
            default -> check(false, 2);
        }
    }
}
