import java.util.ArrayList;
import java.util.HashMap;
import java.util.List;
import java.util.Map;

/** The document's terms by trying all that can be, with none of the class's short cuts. */
final class Oracle {

    static final int NONE = -1;
    static final int DAYS = 30;

    /** A fraction in least terms. */
    record Fraction(long above, long below) {
        static final Fraction ZERO = new Fraction(0, 1);

        static Fraction of(long above, long below) {
            long a = Math.abs(above);
            long b = below;
            while (b != 0) {
                long rest = a % b;
                a = b;
                b = rest;
            }
            return new Fraction(above / a, below / a);
        }

        Fraction plus(Fraction other) {
            return of(above * other.below + other.above * below, below * other.below);
        }

        Fraction minus(Fraction other) {
            return plus(new Fraction(-other.above, other.below));
        }

        Fraction times(long k) {
            return of(above * k, below);
        }

        int compare(Fraction other) {
            return Long.compare(above * other.below, other.above * below);
        }

        long part(int what) {
            return what == 0 ? above : below;
        }
    }

    int men;
    int names;
    int pairs;
    int day;
    final int[] ownName = new int[8];
    final int[] purse = new int[8];
    final int[] owner = new int[12];
    final String[] word = new String[12];
    final boolean[][] foes = new boolean[8][8];
    final List<int[]> comes = new ArrayList<>();
    final List<int[]> brings = new ArrayList<>();
    final List<int[]> owes = new ArrayList<>();
    /** NAME, 1 for 'is', MEN as bits. */
    List<int[]> sights = new ArrayList<>();
    final int[][] given = new int[DAYS][8];

    Oracle() {
        for (int[] row : given) {
            java.util.Arrays.fill(row, NONE);
        }
    }

    Oracle copy() {
        Oracle other = new Oracle();
        other.men = men;
        other.names = names;
        other.pairs = pairs;
        other.day = day;
        System.arraycopy(ownName, 0, other.ownName, 0, 8);
        System.arraycopy(purse, 0, other.purse, 0, 8);
        System.arraycopy(owner, 0, other.owner, 0, 12);
        System.arraycopy(word, 0, other.word, 0, 12);
        for (int m = 0; m < 8; m++) {
            other.foes[m] = foes[m].clone();
        }
        other.comes.addAll(comes);
        other.brings.addAll(brings);
        other.owes.addAll(owes);
        other.sights = new ArrayList<>(sights);
        for (int d = 0; d < DAYS; d++) {
            other.given[d] = given[d].clone();
        }
        return other;
    }

    boolean isMan(int m) {
        return m >= 0 && m < men;
    }

    boolean isName(int n) {
        return n >= 0 && n < names;
    }

    static boolean isDay(int d) {
        return d >= 0 && d < DAYS;
    }

    int[] coming(int m, int d) {
        for (int[] c : comes) {
            if (c[0] == m && c[1] == d) {
                return c;
            }
        }
        return null;
    }

    List<Integer> comers(int d) {
        List<int[]> those = new ArrayList<>();
        for (int[] c : comes) {
            if (c[1] == d) {
                those.add(c);
            }
        }
        those.sort((a, b) -> a[2] != b[2] ? a[2] - b[2] : a[0] - b[0]);
        List<Integer> order = new ArrayList<>();
        for (int[] c : those) {
            order.add(c[0]);
        }
        return order;
    }

    Fraction mean(int n, int d) {
        Fraction sum = Fraction.ZERO;
        for (int[] b : brings) {
            if (b[0] == n && b[1] == d) {
                sum = sum.plus(Fraction.of((long) b[2] * b[3], b[4]));
            }
        }
        for (int[] o : owes) {
            if (o[2] == d) {
                sum = sum.plus(new Fraction(o[1] == n ? o[3] : o[0] == n ? -o[3] : 0, 1));
            }
        }
        return sum;
    }

    int give(int m, int n) {
        if (!isMan(m) || !isName(n)) {
            return NONE;
        }
        if (coming(m, day) == null) {
            return 1;
        }
        if (given[day][m] != NONE) {
            return 2;
        }
        if (ownName[m] == n) {
            return 3;
        }
        if (bearer(n, day) != NONE) {
            return 4;
        }
        for (int other : comers(day)) {
            if (other == m) {
                break;
            }
            if (given[day][other] == NONE) {
                return 5;
            }
        }
        given[day][m] = n;
        return 0;
    }

    int gave(int m, int d) {
        return isMan(m) && isDay(d) ? given[d][m] : NONE;
    }

    int bearer(int n, int d) {
        if (!isName(n) || !isDay(d)) {
            return NONE;
        }
        for (int m = 0; m < men; m++) {
            if (given[d][m] == n) {
                return m;
            }
        }
        return NONE;
    }

    int idle(int d) {
        if (d < 0 || d > day) {
            return NONE;
        }
        int bits = 0;
        for (int n = 0; n < names; n++) {
            if (bearer(n, d) == NONE) {
                bits |= 1 << n;
            }
        }
        return bits;
    }

    int back() {
        List<Integer> order = comers(day);
        for (int k = order.size() - 1; k >= 0; k--) {
            if (given[day][order.get(k)] != NONE) {
                given[day][order.get(k)] = NONE;
                return 0;
            }
        }
        if (day == 0) {
            return NONE;
        }
        day--;
        return 1;
    }

    Fraction out(int m) {
        Fraction sum = Fraction.ZERO;
        for (int d = 0; d <= day; d++) {
            if (given[d][m] != NONE) {
                sum = sum.plus(mean(given[d][m], d));
            }
        }
        return sum;
    }

    int debt(int a, int b) {
        int sum = 0;
        for (int[] o : owes) {
            if (given[o[2]][a] == o[0] && given[o[2]][b] == o[1]) {
                sum += o[3];
            }
        }
        return sum;
    }

    int rings() {
        int all = 0;
        int paid = 0;
        for (int a = 0; a < men; a++) {
            int has = 0;
            for (int b = 0; b < men; b++) {
                all += debt(a, b);
                has += debt(b, a) - debt(a, b);
            }
            paid += Math.max(0, has);
        }
        return all - paid;
    }

    // ---- MATCHED by a table over all sets of NAMES used

    int[] matchedNames;

    /** The sum, or null; the first of the best is left in matchedNames. */
    Fraction matched(int d, int ofPurse, int without) {
        List<Integer> those = new ArrayList<>();
        for (int m = 0; m < men; m++) {
            if (coming(m, d) != null && (ofPurse == NONE || purse[m] == ofPurse)) {
                those.add(m);
            }
        }
        Fraction[] value = new Fraction[names];
        for (int n = 0; n < names; n++) {
            value[n] = mean(n, d);
        }
        Fraction[][] best = new Fraction[those.size() + 1][1 << names];
        for (int i = those.size(); i >= 0; i--) {
            for (int used = 0; used < 1 << names; used++) {
                best[i][used] = i == those.size() ? Fraction.ZERO : null;
                for (int n = 0; i < those.size() && n < names; n++) {
                    Fraction sum = sumWith(best, value, those.get(i), i, used, n);
                    if (sum != null && n != without
                            && (best[i][used] == null || sum.compare(best[i][used]) > 0)) {
                        best[i][used] = sum;
                    }
                }
            }
        }
        if (best[0][0] == null) {
            return null;
        }
        matchedNames = new int[8];
        java.util.Arrays.fill(matchedNames, NONE);
        int used = 0;
        for (int i = 0; i < those.size(); i++) {
            int n = 0;
            for (; n < names; n++) {
                Fraction sum = n == without ? null : sumWith(best, value, those.get(i), i, used, n);
                if (sum != null && sum.compare(best[i][used]) == 0) {
                    break;
                }
            }
            matchedNames[those.get(i)] = n;
            used |= 1 << n;
        }
        return best[0][0];
    }

    private Fraction sumWith(Fraction[][] best, Fraction[] value, int m, int i, int used, int n) {
        if (n == ownName[m] || (used >> n & 1) != 0 || best[i + 1][used | 1 << n] == null) {
            return null;
        }
        return best[i + 1][used | 1 << n].plus(value[n]);
    }

    Fraction want(int n, int d) {
        Fraction without = matched(d, NONE, n);
        return without == null ? null : matched(d, NONE, NONE).minus(without);
    }

    int[] serialNames;

    Fraction serial(int d) {
        int[] taken = new int[8];
        java.util.Arrays.fill(taken, NONE);
        boolean[] gone = new boolean[names];
        Fraction sum = Fraction.ZERO;
        for (int m : comers(d)) {
            int best = NONE;
            for (int n = names - 1; n >= 0; n--) {
                if (!gone[n] && n != ownName[m]
                        && (best == NONE || mean(n, d).compare(mean(best, d)) >= 0)) {
                    best = n;
                }
            }
            if (best == NONE) {
                return null;
            }
            gone[best] = true;
            taken[m] = best;
            sum = sum.plus(mean(best, d));
        }
        serialNames = taken;
        return sum;
    }

    int envies(int m) {
        if (!isMan(m) || given[day][m] == NONE) {
            return NONE;
        }
        int bits = 0;
        for (int other = 0; other < men; other++) {
            int n = given[day][other];
            if (n != NONE && n != ownName[m]
                    && mean(n, day).compare(mean(given[day][m], day)) > 0) {
                bits |= 1 << other;
            }
        }
        return bits;
    }

    int inTown(int d, int minute) {
        if (!isDay(d) || minute < 0 || minute > 99) {
            return NONE;
        }
        int bits = 0;
        for (int[] c : comes) {
            if (c[1] == d && c[2] <= minute && minute <= c[3]) {
                bits |= 1 << c[0];
            }
        }
        return bits;
    }

    int crowd(int d, int what) {
        if (!isDay(d) || what < 0 || what > 1) {
            return NONE;
        }
        int most = 0;
        int first = 0;
        for (int minute = 99; minute >= 0; minute--) {
            int here = Integer.bitCount(inTown(d, minute));
            if (here >= most) {
                most = here;
                first = minute;
            }
        }
        return what == 0 ? most : first;
    }

    int rests(int[] prices) {
        if (prices.length != names) {
            return NONE;
        }
        for (int m = 0; m < men; m++) {
            int mine = given[day][m];
            if (mine == NONE) {
                continue;
            }
            Fraction has = mean(mine, day).minus(new Fraction(prices[mine], 1));
            if (has.above < 0) {
                return 0;
            }
            for (int n = 0; n < names; n++) {
                Fraction other = mean(n, day).minus(new Fraction(prices[n], 1));
                if (n != ownName[m] && other.compare(has) > 0) {
                    return 0;
                }
            }
        }
        return 1;
    }

    /** Ways of the LOT; with a MAN other than NONE those in which he has the NAME. */
    long lots(int d, int m, int n) {
        List<Integer> order = comers(d);
        long[] ways = new long[1 << names];
        ways[0] = 1;
        for (int who : order) {
            long[] next = new long[1 << names];
            for (int used = 0; used < 1 << names; used++) {
                for (int has = 0; has < names && ways[used] != 0; has++) {
                    boolean fits = has != ownName[who] && (who != m || has == n);
                    if (fits && (used >> has & 1) == 0) {
                        next[used | 1 << has] += ways[used];
                    }
                }
            }
            ways = next;
        }
        long all = 0;
        for (long w : ways) {
            all += w;
        }
        return all;
    }

    Fraction lotMean(int d, int m) {
        long all = lots(d, NONE, NONE);
        if (all == 0) {
            return null;
        }
        Fraction sum = Fraction.ZERO;
        for (int n = 0; n < names; n++) {
            sum = sum.plus(mean(n, d).times(lots(d, m, n)));
        }
        return Fraction.of(sum.above, sum.below * all);
    }

    private boolean meet(int a, int b, int d, int shift) {
        int[] one = coming(a, d);
        int[] other = coming(b, d);
        if (one == null || other == null || !foes[a][b]) {
            return false;
        }
        for (int minute = 0; minute < 300; minute++) {
            if (one[2] + shift <= minute && minute <= one[3] + shift
                    && other[2] <= minute && minute <= other[3]) {
                return true;
            }
        }
        return false;
    }

    int meets(int d, int k) {
        if (!isDay(d)) {
            return NONE;
        }
        List<Integer> found = new ArrayList<>();
        for (int a = 0; a < men; a++) {
            for (int b = a + 1; b < men; b++) {
                if (meet(a, b, d, 0)) {
                    found.add(10 * a + b);
                }
            }
        }
        return k == NONE ? found.size() : k >= 0 && k < found.size() ? found.get(k) : NONE;
    }

    int later(int m, int d) {
        if (!isMan(m) || coming(m, d) == null) {
            return NONE;
        }
        for (int shift = 0; shift < 200; shift++) {
            boolean alone = true;
            for (int b = 0; b < men; b++) {
                alone &= !meet(m, b, d, shift);
            }
            if (alone) {
                return shift;
            }
        }
        throw new AssertionError();
    }

    // ---- HOLDS one by one: rows with the MAN who has each NAME

    List<int[]> holds() {
        List<int[]> found = new ArrayList<>();
        int[] row = new int[names];
        java.util.Arrays.fill(row, NONE);
        addHolds(0, row, new boolean[8], found);
        return found;
    }

    private void addHolds(int n, int[] row, boolean[] has, List<int[]> found) {
        if (n == names) {
            found.add(row.clone());
            return;
        }
        if (bearer(n, day) == NONE) {
            addHolds(n + 1, row, has, found);
            return;
        }
        for (int m = 0; m < men; m++) {
            if (given[day][m] != NONE && !has[m] && ownName[m] != n && seen(n, m)) {
                has[m] = true;
                row[n] = m;
                addHolds(n + 1, row, has, found);
                row[n] = NONE;
                has[m] = false;
            }
        }
    }

    private boolean seen(int n, int m) {
        for (int[] s : sights) {
            if (s[0] == n && ((s[2] >> m & 1) != 0) != (s[1] == 1)) {
                return false;
            }
        }
        return true;
    }

    int could(int n, List<int[]> holds) {
        if (!isName(n) || bearer(n, day) == NONE) {
            return NONE;
        }
        int bits = 0;
        for (int[] row : holds) {
            bits |= 1 << row[n];
        }
        return bits;
    }

    int look(int n, List<int[]> holds) {
        if (!isName(n) || bearer(n, day) == NONE) {
            return NONE;
        }
        int most = 0;
        for (int m = 0; m < men; m++) {
            int left = 0;
            for (int[] row : holds) {
                left += row[n] == m ? 1 : 0;
            }
            most = Math.max(most, left);
        }
        return most;
    }

    int best(List<int[]> holds) {
        int best = NONE;
        for (int n = 0; n < names && !holds.isEmpty(); n++) {
            if (look(n, holds) != NONE
                    && (best == NONE || look(n, holds) < look(best, holds))) {
                best = n;
            }
        }
        return best;
    }

    int questions(int m, List<int[]> holds) {
        if (!isMan(m) || given[day][m] == NONE || holds.isEmpty()) {
            return NONE;
        }
        int all = ~idle(day) & (1 << names) - 1;
        int best = NONE;
        for (int asked = 0; asked <= all; asked++) {
            boolean fewer = best == NONE || Integer.bitCount(asked) < Integer.bitCount(best);
            if ((asked & ~all) == 0 && fewer && tells(asked, m, holds)) {
                best = asked;
            }
        }
        return best;
    }

    private boolean tells(int asked, int m, List<int[]> holds) {
        Map<Long, Integer> known = new HashMap<>();
        for (int[] row : holds) {
            long key = 0;
            int his = NONE;
            for (int n = 0; n < names; n++) {
                if ((asked >> n & 1) != 0) {
                    key = key * 9 + row[n] + 1;
                }
                if (row[n] == m) {
                    his = n;
                }
            }
            Integer before = known.put(key, his);
            if (before != null && before != his) {
                return false;
            }
        }
        return true;
    }

    int drawn(int seed) {
        int x = seed;
        int count = 0;
        for (int m : comers(day)) {
            if (given[day][m] != NONE) {
                continue;
            }
            List<Integer> left = new ArrayList<>();
            for (int n = 0; n < names; n++) {
                if (bearer(n, day) == NONE && n != ownName[m]) {
                    left.add(n);
                }
            }
            if (left.isEmpty()) {
                break;
            }
            x = x * 1103515245 + 12345;
            given[day][m] = left.get((x >>> 8) % left.size());
            count++;
        }
        return count;
    }
}
