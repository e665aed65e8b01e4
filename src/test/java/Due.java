/** Counts the answers that are not due, and tells them. */
final class Due {
    private final String test;
    private int asked = 0;
    private int wrong = 0;

    Due(String test) {
        this.test = test;
    }

    void is(String call, long got, long want) {
        asked++;
        if (got != want) {
            wrong++;
            System.out.println(test + ": " + call + " answered " + got + ", due is " + want);
        }
    }

    /** A new object that has been told a text, which it must take. */
    PartSitters told(String text) {
        PartSitters x = new PartSitters();
        int lines = tell(x, text);
        asked++;
        if (lines < 0) {
            wrong++;
            System.out.println(test + ": \"" + text + "\" is refused by " + lines);
        }
        return x;
    }

    static void feed(PartSitters x, String bytes) {
        for (int i = 0; i < bytes.length(); i++) {
            x.feed(bytes.charAt(i));
        }
    }

    static int tell(PartSitters x, String text) {
        x.end(0);
        feed(x, text);
        return x.text();
    }

    /** Ends the program: with 1 if an answer was not due. */
    void close() {
        System.out.println(test + ": " + asked + " answers, " + wrong + " not due");
        System.exit(wrong == 0 ? 0 : 1);
    }
}
