import java.util.ArrayList;
import java.util.List;
import java.util.Set;

/**
 * A run of calls on a new object, told as text, each with the answer that is due: "feed 128 = BAD, count 2 = 0".
 * "tell 'parts 2;' = 1" feeds the bytes and then calls text(), "tape 'parts'" feeds alone, "16 times go 60" is
 * called so often and is not refused, "new" goes on with a new object. MIN and MAX are the ends of the ints,
 * yes and no are true and false.
 *
 * Of each call that is refused, and of each that asks alone, it is looked at that all else shows as before; behind
 * "far" no more, since a look needs calls, too, and an object has 512 of them.
 */
final class Run {
    private static final Set<String> CHANGING = Set.of("feed", "end", "text", "paint", "scrape", "alter", "worth", "go",
        "see", "forget", "keep", "back", "sheet", "lay", "read");
    private final List<String> wrong = new ArrayList<>();
    private int asked = 0;
    private boolean far = false;
    private Called x = new Called();

    /** What was not due. */
    List<String> wrong() {
        return wrong;
    }

    int asked() {
        return asked;
    }

    void lines(String... lines) {
        for (String line : lines) {
            for (String step : line.split(",(?=(?:[^']*'[^']*')*[^']*$)")) {
                take(step.trim());
            }
        }
    }

    private void take(String step) {
        if (step.equals("new")) {
            x = new Called();
        } else if (step.equals("far")) {
            far = true;
        } else if (step.startsWith("tape '")) {
            feed(step.substring(6, step.length() - 1));
        } else if (step.startsWith("tell '")) {
            int end = step.lastIndexOf('\'');
            feed(step.substring(6, end));
            due("text", answer(step.substring(end + 1).replace("=", "").trim()));
        } else if (step.contains(" times ")) {
            String call = step.substring(step.indexOf(" times ") + 7);
            for (int n = Integer.parseInt(step.substring(0, step.indexOf(' '))); n > 0; n--) {
                taken(call);
            }
        } else {
            int sign = step.indexOf(" = ");
            due(step.substring(0, sign), answer(step.substring(sign + 3).trim()));
        }
    }

    private void feed(String bytes) {
        for (int i = 0; i < bytes.length(); i++) {
            taken("feed " + (int) bytes.charAt(i));
        }
    }

    private void taken(String call) {
        asked++;
        long got = x.call(call);
        if (got < 0) {
            wrong.add(call + " is refused by " + got);
        }
    }

    private static long answer(String word) {
        switch (word) {
            case "BAD": return -1;
            case "STATE": return -2;
            case "FULL": return -3;
            case "NONE": return -4;
            default: return Long.parseLong(word);
        }
    }

    private void due(String call, long due) {
        asked++;
        Called before = x.again();
        long got = x.call(call);
        if (got != due) {
            wrong.add("call " + x.calls() + ", " + call + ", answered " + got + ", due is " + due);
        }
        String name = call.split(" ")[0];
        if (!far && (due < 0 || !CHANGING.contains(name))) {
            seeThatNothingIsChanged(call, name, before);
        }
    }

    private void seeThatNothingIsChanged(String call, String name, Called before) {
        boolean isText = name.equals("text");
        if (isText) {
            // But THE TAPE, as told, and what fault() tells.
            before.call("end 0");
        }
        if (!isText && !Shown.ofFaults(before).equals(Shown.ofFaults(x))) {
            wrong.add("call " + x.calls() + ", " + call + ", has changed what torn() or fault() tells");
        }
        String was = Shown.of(before);
        String is = Shown.of(x);
        if (!was.equals(is)) {
            wrong.add("call " + x.calls() + ", " + call + ", has changed something: " + firstOther(was, is));
        }
    }

    private static String firstOther(String was, String is) {
        String[] a = was.split("\n");
        String[] b = is.split("\n");
        for (int i = 0; i < a.length && i < b.length; i++) {
            if (!a[i].equals(b[i])) {
                return a[i] + " was, " + b[i] + " is";
            }
        }
        return a.length + " answers were, " + b.length + " are";
    }
}
