import java.util.NoSuchElementException;

/** What the tests share: answers that are due, texts fed to the tape, calls that throw. */
final class Check {

    /** A call whose answer is a number. */
    interface Call {
        long answer();
    }

    static final long THROWS = Long.MIN_VALUE;

    private static int wrong;
    private static int asked;

    private Check() {
    }

    static void due(String what, long got, long want) {
        asked++;
        if (got != want) {
            wrong++;
            if (wrong <= 60) {
                System.out.println(what + " answered " + show(got) + ", due is " + show(want));
            }
        }
    }

    static void due(String what, boolean got, boolean want) {
        due(what, got ? 1 : 0, want ? 1 : 0);
    }

    static void dueThrow(String what, Call call) {
        due(what, of(call), THROWS);
    }

    /** The answer, or THROWS for the one exception that the document names. */
    static long of(Call call) {
        try {
            return call.answer();
        } catch (NoSuchElementException e) {
            return THROWS;
        }
    }

    private static String show(long answer) {
        return answer == THROWS ? "NoSuchElementException" : Long.toString(answer);
    }

    /** Feeds the text behind an empty tape; the last feed is cut to the text's end. */
    static void feed(GateNames x, String text) {
        int[] bytes = new int[text.length()];
        for (int i = 0; i < bytes.length; i++) {
            bytes[i] = text.charAt(i);
        }
        feed(x, bytes);
    }

    static void feed(GateNames x, int... bytes) {
        for (int at = 0; at < bytes.length; at += 20) {
            int[] numbers = new int[5];
            for (int i = 0; i < 20; i++) {
                int next = at + i < bytes.length ? bytes[at + i] & 255 : 0;
                numbers[i / 4] = numbers[i / 4] << 8 | next;
            }
            due("feed", x.feed(numbers[0], numbers[1], numbers[2], numbers[3], numbers[4]), at + 20);
        }
        due("end", x.end(bytes.length), true);
    }

    static int town(GateNames x, String text) {
        feed(x, text);
        return x.town();
    }

    static int sights(GateNames x, String text) {
        feed(x, text);
        return x.sights();
    }

    /** A new object with a TOWN that has no FAULT. */
    static GateNames with(String text) {
        GateNames x = new GateNames();
        int answer = town(x, text);
        if (answer < 0) {
            due("town() of " + text, answer, 0);
        }
        return x;
    }

    static void end(String test) {
        System.out.println(test + ": " + asked + " answers, " + wrong + " wrong");
        if (wrong != 0) {
            System.exit(1);
        }
    }
}
