/** Answers of all calls that change nothing, so that a test can see that all stays. */
final class State {

    private static final int NONE = -1;

    private final GateNames x;
    private final StringBuilder all = new StringBuilder();

    private State(GateNames x) {
        this.x = x;
    }

    /** What an image keeps: TOWN, DAY, NAMES given and SIGHTS. */
    static String kept(GateNames x) {
        State state = new State(x);
        state.told();
        state.days();
        state.givers();
        state.guesses();
        return state.all.toString();
    }

    /** What an image does not keep: the tape, the FAULT and what matched() and serial() chose. */
    static String latest(GateNames x) {
        State state = new State(x);
        state.add("tape", x.count(9));
        state.add("fault", x.fault());
        for (int m = 0; m < 8; m++) {
            state.add("matchedAs", x.matchedAs(m));
            state.add("serialAs", x.serialAs(m));
        }
        return state.all.toString();
    }

    static String whole(GateNames x) {
        return kept(x) + latest(x);
    }

    /** That two states are alike; the first place where they are not is told. */
    static void due(String what, String got, String want) {
        int at = 0;
        while (at < got.length() && at < want.length() && got.charAt(at) == want.charAt(at)) {
            at++;
        }
        boolean same = got.equals(want);
        String where = same ? "" : ": " + got.substring(Math.max(0, at - 20), Math.min(got.length(), at + 20))
                + " where " + want.substring(Math.max(0, at - 20), Math.min(want.length(), at + 20)) + " is due";
        Check.due(what + where, same, true);
    }

    private void add(String what, long answer) {
        all.append(what).append(' ').append(answer == Check.THROWS ? "throws" : "" + answer).append('\n');
    }

    private void told() {
        for (int what = 0; what < 9; what++) {
            add("count " + what, x.count(what));
        }
        for (int k = 0; k < 12; k++) {
            int n = k;
            add("owner", x.owner(n));
            for (int k2 = 0; k2 < 3; k2++) {
                int what = k2;
                add("man " + n + " " + what, Check.of(() -> x.man(n, what)));
            }
        }
    }

    private void days() {
        for (int k = 0; k < 30; k++) {
            int day = k;
            add("idle " + day, x.idle(day));
            add("lots " + day, x.lots(day));
            add("crowd " + day, x.crowd(day, 0));
            add("crowd " + day, x.crowd(day, 1));
            for (int one = NONE; one < 8; one++) {
                add("comer " + day, x.comer(day, one));
                add("meets " + day, x.meets(day, one));
                add("inTown " + day, x.inTown(day, 12 * one + 12));
            }
            for (int one = 0; one < 12; one++) {
                int n = one;
                add("mean " + day, Check.of(() -> x.mean(n, day, 0)));
                add("mean " + day, Check.of(() -> x.mean(n, day, 1)));
                add("want " + day, Check.of(() -> x.want(n, day, 0)));
                add("bearer " + day, x.bearer(n, day));
                add("lotsOf " + day, x.lotsOf(day, n % 8, 11 - n));
            }
            for (int one = 0; one < 8; one++) {
                int m = one;
                add("when " + day, x.when(m, day, 0));
                add("when " + day, x.when(m, day, 1));
                add("gave " + day, x.gave(m, day));
                add("later " + day, x.later(m, day));
                add("lotMean " + day, Check.of(() -> x.lotMean(day, m, 0)));
            }
        }
    }

    private void givers() {
        add("rings", x.rings());
        for (int one = 0; one < 8; one++) {
            int m = one;
            add("out " + m, Check.of(() -> x.out(m, 0)));
            add("out " + m, Check.of(() -> x.out(m, 1)));
            add("envies " + m, x.envies(m));
            for (int other = 0; other < 8; other++) {
                add("debt " + m, x.debt(m, other));
                add("net " + m, x.net(m, other));
            }
        }
    }

    private void guesses() {
        add("holds", x.holds());
        add("best", x.best());
        for (int n = 0; n < 12; n++) {
            add("could " + n, x.could(n));
            add("look " + n, x.look(n));
        }
        for (int m = 0; m < 8; m++) {
            add("questions " + m, x.questions(m));
        }
    }
}
