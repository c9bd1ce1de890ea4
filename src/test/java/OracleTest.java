import java.util.List;
import java.util.Random;

/** Long runs of calls on towns made by lot, each answer against the Oracle's. */
public final class OracleTest {

    private static final int RUNS = 900;
    private static final int STEPS = 440;

    private final Random lot;
    private final GateNames x = new GateNames();
    private final Oracle[] kept = new Oracle[2];
    private Oracle o = new Oracle();
    private int[] matched = none();
    private int[] serial = none();
    private int days;

    private OracleTest(int seed) {
        lot = new Random(seed);
    }

    public static void main(String[] args) {
        for (int seed = 0; seed < RUNS; seed++) {
            new OracleTest(seed).run();
        }
        Check.end("OracleTest");
    }

    private static int[] none() {
        int[] row = new int[8];
        java.util.Arrays.fill(row, -1);
        return row;
    }

    private void run() {
        newTown();
        for (int step = 0; step < STEPS; step++) {
            if (step % 150 == 149) {
                newTown();
            }
            int pick = lot.nextInt(100);
            if (pick < 38) {
                change();
            } else if (pick < 60) {
                askTown();
            } else if (pick < 85) {
                askDay();
            } else {
                askHolds();
            }
        }
    }

    // ---- towns by lot

    private String blank() {
        return lot.nextInt(6) == 0 ? "\n " : " ";
    }

    private void newTown() {
        o = new Oracle();
        days = 1 + lot.nextInt(3);
        StringBuilder text = new StringBuilder();
        int lines = 0;
        int men = lot.nextInt(4) == 0 ? 8 : lot.nextInt(9);
        int names = Math.min(12, men + lot.nextInt(4));
        while (o.names < names) {
            boolean man = o.men < men && (lot.nextInt(3) > 0 || o.names - o.men >= names - men);
            text.append(man ? tellMan() : tellName());
            lines++;
        }
        int most = 40 + lot.nextInt(60);
        for (int step = 0; step < most && o.names > 0; step++) {
            String line = tellLine();
            if (text.length() + line.length() <= 900) {
                text.append(line);
                lines++;
            } else {
                forget(line);
                break;
            }
        }
        Check.due("town() of " + text, Check.town(x, text.toString()), lines);
    }

    private String newWord() {
        String own = " man purse name comes brings owes foes is not ";
        for (;;) {
            StringBuilder word = new StringBuilder();
            int length = 1 + lot.nextInt(lot.nextInt(3) == 0 ? 6 : 2);
            for (int i = 0; i < length; i++) {
                word.append((char) ('a' + lot.nextInt(26)));
            }
            boolean free = !own.contains(" " + word + " ");
            for (int n = 0; n < o.names; n++) {
                free &= !o.word[n].contentEquals(word);
            }
            if (free) {
                return word.toString();
            }
        }
    }

    private String tellName() {
        o.word[o.names] = newWord();
        o.owner[o.names] = -1;
        o.names++;
        return "name " + o.word[o.names - 1] + ";";
    }

    private String tellMan() {
        String word = newWord();
        o.word[o.names] = word;
        o.owner[o.names] = o.men;
        o.ownName[o.men] = o.names;
        o.purse[o.men] = lot.nextInt(5) - 1;
        String tail = o.purse[o.men] < 0 ? ";" : " purse " + o.purse[o.men] + ";";
        o.names++;
        o.men++;
        return "man" + blank() + word + tail;
    }

    /** Few DAYS, so that much falls on one. */
    private int someDay() {
        return lot.nextInt(12) == 0 ? 29 : lot.nextInt(days);
    }

    private String tellLine() {
        int sort = lot.nextInt(10);
        if (sort < 4 && o.men > 0 && o.comes.size() < 40) {
            int[] c = {lot.nextInt(o.men), someDay(), lot.nextInt(60), 0};
            c[3] = c[2] + lot.nextInt(40);
            if (o.coming(c[0], c[1]) == null) {
                o.comes.add(c);
                return "comes " + o.word[o.ownName[c[0]]] + blank() + c[1] + " " + c[2] + " " + c[3] + ";";
            }
        } else if (sort < 7 && o.brings.size() < 40) {
            return tellBrings();
        } else if (sort < 9 && o.names > 1 && o.owes.size() < 40) {
            int[] w = {lot.nextInt(o.names), lot.nextInt(o.names), someDay(), 1 + lot.nextInt(99)};
            if (w[0] != w[1]) {
                o.owes.add(w);
                return "owes " + o.word[w[0]] + " " + o.word[w[1]] + blank() + w[2] + " " + w[3] + ";";
            }
        } else if (o.men > 1) {
            int a = lot.nextInt(o.men);
            int b = lot.nextInt(o.men);
            if (a != b && !o.foes[a][b]) {
                o.foes[a][b] = true;
                o.foes[b][a] = true;
                o.pairs++;
                return "foes" + blank() + o.word[o.ownName[a]] + " " + o.word[o.ownName[b]] + ";";
            }
        }
        return o.brings.size() < 40 ? tellBrings() : tellOverflow();
    }

    private String tellBrings() {
        int m = 1 + lot.nextInt(12);
        boolean sure = lot.nextInt(3) == 0;
        boolean few = lot.nextInt(2) == 0;
        int[] b = {lot.nextInt(o.names), someDay(), few ? lot.nextInt(3) : lot.nextInt(100), 1, 1};
        String head = "brings " + o.word[b[0]] + " " + b[1] + blank();
        String amount = Integer.toString(b[2]);
        if (lot.nextInt(3) == 0) {
            head += "-";
            b[2] = -b[2];
        }
        o.brings.add(b);
        if (sure) {
            return head + amount + ";";
        }
        b[3] = lot.nextInt(m + 1);
        b[4] = m;
        return head + amount + "/" + b[3] + blank() + b[4] + ";";
    }

    /** Longer than any text may be, so that the town ends here. */
    private static String tellOverflow() {
        return " ".repeat(901);
    }

    /** Takes back the latest line told, which had no room. */
    private void forget(String line) {
        if (line.startsWith("comes")) {
            o.comes.remove(o.comes.size() - 1);
        } else if (line.startsWith("brings")) {
            o.brings.remove(o.brings.size() - 1);
        } else if (line.startsWith("owes")) {
            o.owes.remove(o.owes.size() - 1);
        } else if (line.startsWith("foes")) {
            String[] two = line.substring(4, line.length() - 1).trim().split("\\s+");
            int a = o.owner[java.util.Arrays.asList(o.word).indexOf(two[0])];
            int b = o.owner[java.util.Arrays.asList(o.word).indexOf(two[1])];
            o.foes[a][b] = false;
            o.foes[b][a] = false;
            o.pairs--;
        }
    }

    private void newSights() {
        StringBuilder text = new StringBuilder();
        List<int[]> sights = new java.util.ArrayList<>();
        int lines = lot.nextInt(4);
        for (int k = 0; k < lines && o.men > 0; k++) {
            boolean is = lot.nextInt(3) == 0;
            int n = lot.nextInt(o.names);
            int count = is ? 2 + lot.nextInt(o.men) : 1 + lot.nextInt(2);
            int bits = 0;
            text.append(o.word[n]).append(is ? " is" : " not");
            for (int i = 0; i < count; i++) {
                int m = lot.nextInt(o.men);
                bits |= 1 << m;
                text.append(' ').append(o.word[o.ownName[m]]);
            }
            text.append(';');
            sights.add(new int[] {n, is ? 1 : 0, bits});
        }
        if (text.length() <= 300) {
            o.sights = sights;
            Check.due("sights() of " + text, Check.sights(x, text.toString()), sights.size());
        }
    }

    // ---- calls

    private int man() {
        return lot.nextInt(8) == 0 || o.men == 0 ? lot.nextInt(12) - 2 : lot.nextInt(o.men);
    }

    private int name() {
        return lot.nextInt(8) == 0 || o.names == 0 ? lot.nextInt(16) - 2 : lot.nextInt(o.names);
    }

    private int day() {
        int pick = lot.nextInt(12);
        return pick == 0 ? 29 : pick == 1 ? 30 : pick == 2 ? -1 : pick < 6 ? lot.nextInt(4) : o.day;
    }

    private void change() {
        int pick = lot.nextInt(20);
        if (pick < 9) {
            List<Integer> order = o.comers(o.day);
            int m = lot.nextInt(3) == 0 || order.isEmpty() ? man() : order.get(lot.nextInt(order.size()));
            int n = name();
            Check.due("give", x.give(m, n), o.give(m, n));
        } else if (pick < 11) {
            int seed = lot.nextInt();
            Check.due("drawn", x.drawn(seed), o.drawn(seed));
        } else if (pick < 13) {
            Check.due("back", x.back(), o.back());
        } else if (pick == 13) {
            for (int again = lot.nextInt(12); again >= 0; again--) {
                Check.due("back", x.back(), o.back());
            }
        } else if (pick == 14 || pick == 15 && lot.nextInt(4) > 0) {
            Check.due("dawn", x.dawn(), o.day == 29 ? -1 : ++o.day);
        } else if (pick == 15 && lot.nextInt(4) == 0) {
            for (int again = 0; again < 30; again++) {
                Check.due("dawn", x.dawn(), o.day == 29 ? -1 : ++o.day);
            }
        } else if (pick < 18) {
            newSights();
        } else if (pick == 18) {
            int k = lot.nextInt(4) - 1;
            boolean fits = k == 0 || k == 1;
            Check.due("image", x.image(k), fits);
            if (fits) {
                kept[k] = o.copy();
            }
        } else {
            int k = lot.nextInt(4) - 1;
            boolean fits = (k == 0 || k == 1) && kept[k] != null;
            Check.due("restore", x.restore(k), fits);
            if (fits) {
                o = kept[k].copy();
            }
        }
    }

    private static long part(Oracle.Fraction f, int what) {
        return f == null || what < 0 || what > 1 ? Check.THROWS : f.part(what);
    }

    private void askTown() {
        int m = man();
        int n = name();
        int d = day();
        int what = lot.nextInt(8) == 0 ? lot.nextInt(5) - 2 : lot.nextInt(2);
        int[] c = o.isMan(m) ? o.coming(m, d) : null;
        List<Integer> order = Oracle.isDay(d) ? o.comers(d) : List.of();
        int k = lot.nextInt(order.size() + 2) - 1;
        switch (lot.nextInt(10)) {
            case 0 -> Check.due("man", Check.of(() -> x.man(m, what)), dueOfMan(m, what));
            case 1 -> Check.due("owner", x.owner(n), o.isName(n) ? o.owner[n] : -1);
            case 2 -> Check.due("comer", x.comer(d, k), !Oracle.isDay(d) ? -1
                    : k == -1 ? order.size() : k < order.size() ? order.get(k) : -1);
            case 3 -> Check.due("when", x.when(m, d, what),
                    c == null || what < 0 || what > 1 ? -1 : c[2 + what]);
            case 4 -> Check.due("mean", Check.of(() -> x.mean(n, d, what)),
                    part(o.isName(n) && Oracle.isDay(d) ? o.mean(n, d) : null, what));
            case 5 -> Check.due("gave", x.gave(m, d), o.gave(m, d));
            case 6 -> Check.due("bearer", x.bearer(n, d), o.bearer(n, d));
            case 7 -> Check.due("idle", x.idle(d), o.idle(d));
            case 8 -> Check.due("out", Check.of(() -> x.out(m, what)),
                    part(o.isMan(m) ? o.out(m) : null, what));
            default -> askCounts();
        }
    }

    private long dueOfMan(int m, int what) {
        if (!o.isMan(m) || what < 0 || what > 2) {
            return Check.THROWS;
        }
        int bits = 0;
        for (int b = 0; b < 8; b++) {
            bits |= o.foes[m][b] ? 1 << b : 0;
        }
        return what == 0 ? o.ownName[m] : what == 1 ? o.purse[m] : bits;
    }

    private void askCounts() {
        int given = 0;
        for (int n : o.given[o.day]) {
            given += n == -1 ? 0 : 1;
        }
        int[] due = {o.men, o.names, o.comes.size(), o.brings.size(), o.owes.size(), o.pairs,
            o.day, given, o.sights.size(), 0};
        int what = lot.nextInt(12) - 1;
        Check.due("count", x.count(what), what < 0 || what > 9 ? -1 : due[what]);
    }

    private void askDay() {
        int m = man();
        int other = man();
        int n = name();
        int d = day();
        int what = lot.nextInt(8) == 0 ? lot.nextInt(5) - 2 : lot.nextInt(2);
        int k = lot.nextInt(4) - 1;
        boolean two = o.isMan(m) && o.isMan(other);
        switch (lot.nextInt(18)) {
            case 0 -> Check.due("debt", x.debt(m, other), two ? o.debt(m, other) : -1);
            case 1 -> Check.due("net", x.net(m, other),
                    two ? Math.max(0, o.debt(m, other) - o.debt(other, m)) : -1);
            case 2 -> askDebts();
            case 3, 4 -> askMatched(d, lot.nextInt(6) - 1, what);
            case 5 -> Check.due("want", Check.of(() -> x.want(n, d, what)),
                    part(o.isName(n) && Oracle.isDay(d) ? o.want(n, d) : null, what));
            case 6, 7 -> askSerial(d, what);
            case 8 -> Check.due("envies", x.envies(m), o.envies(m));
            case 9 -> {
                int minute = lot.nextInt(104) - 2;
                Check.due("inTown", x.inTown(d, minute), o.inTown(d, minute));
            }
            case 10 -> Check.due("crowd", x.crowd(d, what), o.crowd(d, what));
            case 11, 12 -> askRests();
            case 13 -> Check.due("lots", x.lots(d), Oracle.isDay(d) ? o.lots(d, -1, -1) : -1);
            case 14 -> Check.due("lotsOf", x.lotsOf(d, m, n),
                    o.isMan(m) && o.isName(n) && o.coming(m, d) != null ? o.lots(d, m, n) : -1);
            case 15 -> Check.due("lotMean", Check.of(() -> x.lotMean(d, m, what)),
                    part(o.isMan(m) && o.coming(m, d) != null ? o.lotMean(d, m) : null, what));
            case 16 -> Check.due("meets", x.meets(d, k), o.meets(d, k));
            default -> Check.due("later", x.later(m, d), o.later(m, d));
        }
    }

    private void askDebts() {
        Check.due("rings", x.rings(), o.rings());
        for (int a = 0; a < o.men; a++) {
            for (int b = 0; b < o.men; b++) {
                Check.due("debt", x.debt(a, b), o.debt(a, b));
                Check.due("net", x.net(a, b), Math.max(0, o.debt(a, b) - o.debt(b, a)));
            }
        }
    }

    private void askMatched(int d, int purse, int what) {
        boolean fits = Oracle.isDay(d) && purse < 4 && what >= 0 && what < 2;
        Oracle.Fraction sum = fits ? o.matched(d, purse, -1) : null;
        Check.due("matched", Check.of(() -> x.matched(d, purse, what)), part(sum, what));
        if (sum != null) {
            matched = o.matchedNames;
        }
        for (int m = -1; m <= 8; m++) {
            Check.due("matchedAs", x.matchedAs(m), m < 0 || m > 7 ? -1 : matched[m]);
        }
    }

    private void askSerial(int d, int what) {
        boolean fits = Oracle.isDay(d) && what >= 0 && what < 2;
        Oracle.Fraction sum = fits ? o.serial(d) : null;
        Check.due("serial", Check.of(() -> x.serial(d, what)), part(sum, what));
        if (sum != null) {
            serial = o.serialNames;
        }
        for (int m = -1; m <= 8; m++) {
            Check.due("serialAs", x.serialAs(m), m < 0 || m > 7 ? -1 : serial[m]);
        }
    }

    /** Often with prices that take all but a little from each MEAN, so that some do rest. */
    private void askRests() {
        int[] prices = new int[o.names + (lot.nextInt(10) == 0 ? 1 : 0)];
        int left = lot.nextInt(30) - 3;
        for (int n = 0; n < prices.length; n++) {
            long near = n < o.names ? o.mean(n, o.day).above() / o.mean(n, o.day).below() : 0;
            prices[n] = (int) Math.max(0, Math.min(255, near - left));
            if (lot.nextInt(8) == 0) {
                prices[n] = lot.nextInt(256);
            }
        }
        Check.feed(x, prices);
        Check.due("rests", x.rests(), o.rests(prices));
        Check.due("tape behind rests", x.count(9), 0);
    }

    private void askHolds() {
        List<int[]> holds = o.holds();
        int n = name();
        int m = man();
        Check.due("holds", x.holds(), holds.size());
        Check.due("could", x.could(n), o.could(n, holds));
        Check.due("look", x.look(n), o.look(n, holds));
        Check.due("best", x.best(), o.best(holds));
        if (holds.size() < 3000 || lot.nextInt(10) == 0) {
            Check.due("questions", x.questions(m), o.questions(m, holds));
        }
    }
}
