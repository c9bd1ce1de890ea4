import java.util.Arrays;
import java.util.NoSuchElementException;

/** A town in which whoever enters gives another's name at the gate, told as a text on a tape. */
public final class GateNames {

    public static final int NONE = -1;

    private static final int DAYS = 30;
    private static final int MINUTES = 100;
    private static final int PURSES = 4;
    private static final int MOST_MEN = 8;
    private static final int MOST_NAMES = 12;
    private static final int MOST_TOLD = 40;
    private static final int MOST_SIGHTS = 16;
    private static final int MOST_ODDS = 12;
    private static final int MOST_AMOUNT = 99;
    private static final int IMAGES = 2;
    private static final int TAPE_BYTES = 940;
    private static final int FED_BYTES = 20;
    private static final int TOWN_BYTES = 900;
    private static final int SIGHTS_BYTES = 300;

    /** 1 to 12 all divide it, so every MEAN is a whole number of such parts. */
    private static final int PARTS = 27720;

    /** Below every sum of MEANS that there can be. */
    private static final long IMPOSSIBLE = -1L << 62;

    private static final int INT_BITS = 32;
    private static final int LONG_BITS = 64;

    /** The texts' own WORDS, five bits a letter. */
    private static final int MAN = ('m' & 31) << 10 | ('a' & 31) << 5 | 'n' & 31;
    private static final int PURSE = ('p' & 31) << 20 | ('u' & 31) << 15
            | ('r' & 31) << 10 | ('s' & 31) << 5 | 'e' & 31;
    private static final int NAME = ('n' & 31) << 15 | ('a' & 31) << 10
            | ('m' & 31) << 5 | 'e' & 31;
    private static final int COMES = ('c' & 31) << 20 | ('o' & 31) << 15
            | ('m' & 31) << 10 | ('e' & 31) << 5 | 's' & 31;
    private static final int BRINGS = ('b' & 31) << 25 | ('r' & 31) << 20 | ('i' & 31) << 15
            | ('n' & 31) << 10 | ('g' & 31) << 5 | 's' & 31;
    private static final int OWES = ('o' & 31) << 15 | ('w' & 31) << 10
            | ('e' & 31) << 5 | 's' & 31;
    private static final int FOES = ('f' & 31) << 15 | ('o' & 31) << 10
            | ('e' & 31) << 5 | 's' & 31;
    private static final int IS = ('i' & 31) << 5 | 's' & 31;
    private static final int NOT = ('n' & 31) << 10 | ('o' & 31) << 5 | 't' & 31;
    private static final int[] OWN_WORDS = {MAN, PURSE, NAME, COMES, BRINGS, OWES, FOES, IS, NOT};

    private final Reader reader = new Reader();
    private final Tape tape = reader.tape;
    private final Town[] kept = {new Town(), new Town()};
    private final Market market = new Market();
    private final Guess guess = new Guess();
    private final int[] matchedNames = new int[MOST_MEN];
    private final int[] serialNames = new int[MOST_MEN];
    private final int[] draftNames = new int[MOST_MEN];
    private final int[] line = new int[MOST_MEN];
    private final int[] balance = new int[MOST_MEN];
    private final long[] means = new long[MOST_NAMES];
    private Town now = new Town();
    private Town draft = new Town();
    private int keptPlaces;

    public GateNames() {
        Arrays.fill(matchedNames, NONE);
        Arrays.fill(serialNames, NONE);
    }

    // ---- the tape and the texts

    public int feed(int a, int b, int c, int d, int e) {
        if (tape.size + FED_BYTES > TAPE_BYTES) {
            return NONE;
        }
        tape.put(a);
        tape.put(b);
        tape.put(c);
        tape.put(d);
        tape.put(e);
        return tape.size;
    }

    public boolean end(int n) {
        if (n < 0 || n > tape.size) {
            return false;
        }
        tape.size = n;
        return true;
    }

    public int town() {
        int answer = reader.readTown(draft);
        tape.size = 0;
        if (answer >= 0) {
            Town old = now;
            now = draft;
            draft = old;
        }
        return answer;
    }

    public int sights() {
        int answer = reader.readSights(now.roll, draft.sights);
        tape.size = 0;
        if (answer >= 0) {
            now.sights.copyFrom(draft.sights);
        }
        return answer;
    }

    public int fault() {
        return reader.fault;
    }

    // ---- what the TOWN tells

    public int man(int m, int what) throws NoSuchElementException {
        Roll roll = now.roll;
        if (!roll.hasMan(m) || what < 0 || what > 2) {
            throw new NoSuchElementException();
        }
        if (what == 0) {
            return roll.ownName[m];
        }
        return what == 1 ? roll.purse[m] : roll.foes[m];
    }

    public int owner(int n) {
        return now.roll.hasName(n) ? now.roll.owner[n] : NONE;
    }

    public int comer(int day, int k) {
        if (!isDay(day)) {
            return NONE;
        }
        int comers = now.comings.lineUp(day, line);
        if (k == NONE) {
            return comers;
        }
        return k >= 0 && k < comers ? now.comings.man[line[k]] : NONE;
    }

    public int when(int m, int day, int what) {
        int c = now.comings.find(m, day);
        if (c == NONE || !isPart(what)) {
            return NONE;
        }
        return what == 0 ? now.comings.in[c] : now.comings.out[c];
    }

    public long mean(int n, int day, int what) throws NoSuchElementException {
        if (!now.roll.hasName(n) || !isDay(day) || !isPart(what)) {
            throw new NoSuchElementException();
        }
        now.sumMeans(day, means);
        return fraction(means[n], PARTS, what);
    }

    // ---- NAMES given, DAYS

    public int give(int m, int n) {
        Comings comings = now.comings;
        if (!now.roll.hasMan(m) || !now.roll.hasName(n)) {
            return NONE;
        }
        int c = comings.find(m, now.today);
        if (c == NONE) {
            return 1;
        }
        if (comings.given[c] != NONE) {
            return 2;
        }
        if (now.roll.ownName[m] == n) {
            return 3;
        }
        if (comings.giver(n, now.today) != NONE) {
            return 4;
        }
        if (comings.isWaitedFor(c)) {
            return 5;
        }
        comings.given[c] = n;
        return 0;
    }

    public int gave(int m, int day) {
        return now.comings.givenBy(m, day);
    }

    public int bearer(int n, int day) {
        return now.roll.hasName(n) ? now.comings.giver(n, day) : NONE;
    }

    public int idle(int day) {
        if (day < 0 || day > now.today) {
            return NONE;
        }
        return now.roll.allNames() & ~now.comings.givenNames(day);
    }

    public int dawn() {
        if (now.today + 1 >= DAYS) {
            return NONE;
        }
        now.today++;
        return now.today;
    }

    public int back() {
        int comers = now.comings.lineUp(now.today, line);
        for (int k = comers - 1; k >= 0; k--) {
            if (now.comings.given[line[k]] != NONE) {
                now.comings.given[line[k]] = NONE;
                return 0;
            }
        }
        if (now.today == 0) {
            return NONE;
        }
        now.today--;
        return 1;
    }

    // ---- OUT, DEBTS

    public long out(int m, int what) throws NoSuchElementException {
        if (!now.roll.hasMan(m) || !isPart(what)) {
            throw new NoSuchElementException();
        }
        Comings comings = now.comings;
        long sum = 0;
        for (int c = 0; c < comings.size; c++) {
            int n = comings.given[c];
            if (comings.man[c] == m && now.roll.hasName(n)) {
                now.sumMeans(comings.day[c], means);
                sum += means[n];
            }
        }
        return fraction(sum, PARTS, what);
    }

    public int debt(int a, int b) {
        if (!now.roll.hasMan(a) || !now.roll.hasMan(b)) {
            return NONE;
        }
        return now.debtOf(a, b);
    }

    public int net(int a, int b) {
        if (!now.roll.hasMan(a) || !now.roll.hasMan(b)) {
            return NONE;
        }
        return Math.max(0, now.debtOf(a, b) - now.debtOf(b, a));
    }

    public int rings() {
        int rest = now.sumBalances(balance);
        for (int m = 0; m < MOST_MEN; m++) {
            rest -= Math.max(0, balance[m]);
        }
        return rest;
    }

    // ---- best NAMES, prices

    public long matched(int day, int purse, int what) throws NoSuchElementException {
        if (!isDay(day) || purse < NONE || purse >= PURSES || !isPart(what)) {
            throw new NoSuchElementException();
        }
        market.open(now, day, purse);
        long sum = market.most(0, now.roll.allNames());
        if (sum == IMPOSSIBLE) {
            throw new NoSuchElementException();
        }
        market.choose(now.roll.allNames(), matchedNames);
        return fraction(sum, PARTS, what);
    }

    public int matchedAs(int m) {
        return m >= 0 && m < MOST_MEN ? matchedNames[m] : NONE;
    }

    public long want(int n, int day, int what) throws NoSuchElementException {
        if (!now.roll.hasName(n) || !isDay(day) || !isPart(what)) {
            throw new NoSuchElementException();
        }
        market.open(now, day, NONE);
        long without = market.most(0, now.roll.allNames() & ~(1 << n));
        if (without == IMPOSSIBLE) {
            throw new NoSuchElementException();
        }
        return fraction(market.most(0, now.roll.allNames()) - without, PARTS, what);
    }

    public long serial(int day, int what) throws NoSuchElementException {
        if (!isDay(day) || !isPart(what)) {
            throw new NoSuchElementException();
        }
        long sum = takeInTurn(day);
        if (sum == IMPOSSIBLE) {
            throw new NoSuchElementException();
        }
        System.arraycopy(draftNames, 0, serialNames, 0, MOST_MEN);
        return fraction(sum, PARTS, what);
    }

    /** SERIAL into the draft, which is kept only if each has a NAME: the sum, or IMPOSSIBLE. */
    private long takeInTurn(int day) {
        int comers = now.comings.lineUp(day, line);
        int left = now.roll.allNames();
        long sum = 0;
        now.sumMeans(day, means);
        Arrays.fill(draftNames, NONE);
        for (int k = 0; k < comers; k++) {
            int m = now.comings.man[line[k]];
            int n = greatest(left & ~(1 << now.roll.ownName[m]));
            if (n == NONE) {
                return IMPOSSIBLE;
            }
            draftNames[m] = n;
            left &= ~(1 << n);
            sum += means[n];
        }
        return sum;
    }

    private int greatest(int names) {
        int best = NONE;
        for (int n = 0; n < MOST_NAMES; n++) {
            if (isIn(n, names) && (best == NONE || means[n] > means[best])) {
                best = n;
            }
        }
        return best;
    }

    public int serialAs(int m) {
        return m >= 0 && m < MOST_MEN ? serialNames[m] : NONE;
    }

    public int envies(int m) {
        int mine = now.comings.givenBy(m, now.today);
        if (!now.roll.hasMan(m) || !now.roll.hasName(mine)) {
            return NONE;
        }
        int men = 0;
        now.sumMeans(now.today, means);
        for (int other = 0; other < now.roll.men; other++) {
            int n = now.comings.givenBy(other, now.today);
            if (now.roll.hasName(n) && n != now.roll.ownName[m] && means[n] > means[mine]) {
                men |= 1 << other;
            }
        }
        return men;
    }

    public int rests() {
        boolean priced = tape.size == now.roll.names;
        tape.size = 0;
        if (!priced) {
            return NONE;
        }
        now.sumMeans(now.today, means);
        for (int n = 0; n < now.roll.names; n++) {
            means[n] -= (long) tape.byteAt(n) * PARTS;
        }
        for (int m = 0; m < now.roll.men; m++) {
            int mine = now.comings.givenBy(m, now.today);
            if (now.roll.hasName(mine) && !isContent(mine, now.roll.ownName[m])) {
                return 0;
            }
        }
        return 1;
    }

    /** Whether no NAME but the one that is barred, and none, leaves more than this one. */
    private boolean isContent(int mine, int barred) {
        if (means[mine] < 0) {
            return false;
        }
        for (int n = 0; n < now.roll.names; n++) {
            if (n != barred && means[n] > means[mine]) {
                return false;
            }
        }
        return true;
    }

    // ---- who is in town, who meets whom

    public int inTown(int day, int minute) {
        if (!isDay(day) || minute < 0 || minute >= MINUTES) {
            return NONE;
        }
        return now.comings.present(day, minute);
    }

    public int crowd(int day, int what) {
        if (!isDay(day) || !isPart(what)) {
            return NONE;
        }
        int comers = now.comings.lineUp(day, line);
        int most = 0;
        int first = 0;
        // A crowd grows only when somebody comes.
        for (int k = 0; k < comers; k++) {
            int minute = now.comings.in[line[k]];
            int men = Integer.bitCount(now.comings.present(day, minute));
            if (men > most) {
                most = men;
                first = minute;
            }
        }
        return what == 0 ? most : first;
    }

    public int meets(int day, int k) {
        if (!isDay(day) || k < NONE) {
            return NONE;
        }
        int pairs = 0;
        for (int a = 0; a < now.roll.men; a++) {
            for (int b = a + 1; b < now.roll.men; b++) {
                if (isIn(b, now.roll.foes[a]) && now.comings.overlap(a, b, day)) {
                    if (pairs == k) {
                        return 10 * a + b;
                    }
                    pairs++;
                }
            }
        }
        return k == NONE ? pairs : NONE;
    }

    public int later(int m, int day) {
        Comings comings = now.comings;
        int mine = comings.find(m, day);
        if (!now.roll.hasMan(m) || mine == NONE) {
            return NONE;
        }
        int shift = 0;
        // Whom he would meet he can only outstay, so each foe moves him once at most.
        for (int pass = 0; pass < MOST_MEN; pass++) {
            for (int c = 0; c < comings.size; c++) {
                boolean foe = comings.day[c] == day && isIn(comings.man[c], now.roll.foes[m]);
                if (foe && comings.in[c] <= comings.out[mine] + shift
                        && comings.in[mine] + shift <= comings.out[c]) {
                    shift = comings.out[c] + 1 - comings.in[mine];
                }
            }
        }
        return shift;
    }

    // ---- LOT

    public long lots(int day) {
        if (!isDay(day)) {
            return NONE;
        }
        int comers = now.comings.lineUp(day, line);
        return Lot.ways(comers, now.roll.names, comers);
    }

    public long lotsOf(int day, int m, int n) {
        if (!now.roll.hasMan(m) || !now.roll.hasName(n) || now.comings.find(m, day) == NONE) {
            return NONE;
        }
        return waysWith(day, m, n);
    }

    /** Ways in which a MAN who comes has a NAME. */
    private long waysWith(int day, int m, int n) {
        int holder = now.roll.owner[n];
        if (holder == m) {
            return 0;
        }
        int others = now.comings.lineUp(day, line) - 1;
        // Whose own NAME is gone may have any of those left.
        int barred = now.comings.find(holder, day) == NONE ? others : others - 1;
        return Lot.ways(others, now.roll.names - 1, barred);
    }

    public long lotMean(int day, int m, int what) throws NoSuchElementException {
        if (!now.roll.hasMan(m) || now.comings.find(m, day) == NONE || !isPart(what)) {
            throw new NoSuchElementException();
        }
        int comers = now.comings.lineUp(day, line);
        long all = Lot.ways(comers, now.roll.names, comers);
        if (all == 0) {
            throw new NoSuchElementException();
        }
        long sum = 0;
        now.sumMeans(day, means);
        for (int n = 0; n < now.roll.names; n++) {
            sum += waysWith(day, m, n) * means[n];
        }
        return fraction(sum, all * PARTS, what);
    }

    // ---- HOLDS

    public int holds() {
        guess.open(now);
        return guess.all();
    }

    public int could(int n) {
        guess.openWhole(now);
        return guess.holders(guess.indexOfName(n));
    }

    public int look(int n) {
        guess.openWhole(now);
        return guess.mostLeft(guess.indexOfName(n));
    }

    public int best() {
        guess.openWhole(now);
        int best = NONE;
        int least = 0;
        for (int i = 0; i < guess.size && guess.all() > 0; i++) {
            int left = guess.mostLeft(i);
            if (best == NONE || left < least) {
                best = guess.name[i];
                least = left;
            }
        }
        return best;
    }

    public int questions(int m) {
        guess.open(now);
        int j = guess.indexOfMan(m);
        return j == NONE || guess.all() == 0 ? NONE : guess.fewestAbout(j);
    }

    // ---- DRAWN, images, counts

    public int drawn(int seed) {
        Comings comings = now.comings;
        int comers = comings.lineUp(now.today, line);
        int x = seed;
        int given = 0;
        for (int k = 0; k < comers; k++) {
            int c = line[k];
            if (comings.given[c] != NONE) {
                continue;
            }
            int own = 1 << now.roll.ownName[comings.man[c]];
            int left = now.roll.allNames() & ~comings.givenNames(now.today) & ~own;
            int choice = Integer.bitCount(left);
            if (choice == 0) {
                break;
            }
            x = x * 1103515245 + 12345;
            comings.given[c] = bitAt(left, (x >>> 8) % choice);
            given++;
        }
        return given;
    }

    public boolean image(int k) {
        if (k < 0 || k >= IMAGES) {
            return false;
        }
        kept[k].copyFrom(now);
        keptPlaces |= 1 << k;
        return true;
    }

    public boolean restore(int k) {
        if (k < 0 || k >= IMAGES || !isIn(k, keptPlaces)) {
            return false;
        }
        now.copyFrom(kept[k]);
        return true;
    }

    public int count(int what) {
        switch (what) {
            case 0:
                return now.roll.men;
            case 1:
                return now.roll.names;
            case 2:
                return now.comings.size;
            case 3:
                return now.gains.size;
            case 4:
                return now.owings.size;
            case 5:
                return now.roll.pairs;
            case 6:
                return now.today;
            case 7:
                return Integer.bitCount(now.comings.givenNames(now.today));
            case 8:
                return now.sights.size;
            case 9:
                return tape.size;
            default:
                return NONE;
        }
    }

    // ---- numbers

    private static boolean isDay(int day) {
        return day >= 0 && day < DAYS;
    }

    private static boolean isPart(int what) {
        return what == 0 || what == 1;
    }

    private static boolean isIn(int k, int bits) {
        return (bits >>> k & 1) != 0;
    }

    /** The number of the k-th bit that is set; NONE: there are not so many. */
    private static int bitAt(int bits, int k) {
        int ahead = 0;
        for (int i = 0; i < INT_BITS; i++) {
            if (isIn(i, bits)) {
                if (ahead == k) {
                    return i;
                }
                ahead++;
            }
        }
        return NONE;
    }

    private static long fraction(long above, long below, int what) {
        long common = Math.max(1, commonDivisor(Math.abs(above), below));
        return what == 0 ? above / common : below / common;
    }

    private static long commonDivisor(long a, long b) {
        long greater = a;
        long lesser = b;
        // Two steps halve the numbers: 128 are enough for any two.
        for (int step = 0; step < 2 * LONG_BITS && lesser != 0; step++) {
            long rest = greater % lesser;
            greater = lesser;
            lesser = rest;
        }
        return greater;
    }

    /** The bytes that were fed and not read yet, and their TOKENS, one at a time. */
    private static final class Tape {
        private static final int NO_TOKEN = 0;
        private static final int END = 1;
        private static final int OWN_WORD = 2;
        private static final int FREE_WORD = 3;
        private static final int NUMBER = 4;
        private static final int SIGN = 5;
        private static final int MOST_LETTERS = 6;
        private static final int MOST_DIGITS = 2;

        private final byte[] bytes = new byte[TAPE_BYTES];
        private int size;
        private int limit;
        private int next;
        private int kind;
        private int place;
        /** Of a WORD its letters, five bits each; of a NUMBER, what it is; of a SIGN, its byte. */
        private int value;

        void put(int number) {
            for (int shift = 24; shift >= 0 && size < TAPE_BYTES; shift -= 8) {
                bytes[size] = (byte) (number >> shift);
                size++;
            }
        }

        int byteAt(int at) {
            return at >= 0 && at < TAPE_BYTES ? bytes[at] & 255 : 0;
        }

        void begin(int most) {
            limit = most;
            next = 0;
        }

        void advance() {
            while (next < size && (bytes[next] == ' ' || bytes[next] == '\n')) {
                next++;
            }
            place = next;
            value = 0;
            if (size > limit && place >= limit) {
                place = limit;
                kind = NO_TOKEN;
            } else if (place >= size) {
                kind = END;
            } else {
                takeRun();
                if (next == place) {
                    takeSign();
                } else if (kind == FREE_WORD && isOwn(value)) {
                    kind = OWN_WORD;
                }
            }
        }

        /** Goes on as long as small letters and digits do, whether they are a TOKEN or not. */
        private void takeRun() {
            int letters = 0;
            int digits = 0;
            for (; next < size; next++) {
                int sign = bytes[next];
                if (sign >= 'a' && sign <= 'z') {
                    letters++;
                    value = value << 5 | sign & 31;
                } else if (sign >= '0' && sign <= '9') {
                    digits++;
                    value = value * 10 + sign - '0';
                } else {
                    break;
                }
            }
            if (digits == 0 && letters <= MOST_LETTERS) {
                kind = FREE_WORD;
            } else if (letters == 0 && digits <= MOST_DIGITS) {
                kind = NUMBER;
            } else {
                kind = NO_TOKEN;
            }
        }

        private void takeSign() {
            value = bytes[place];
            kind = value == ';' || value == '-' || value == '/' ? SIGN : NO_TOKEN;
            next++;
        }

        boolean isSign(char sign) {
            return kind == SIGN && value == sign;
        }

        boolean isWord(int own) {
            return kind == OWN_WORD && value == own;
        }

        private static boolean isOwn(int word) {
            for (int k = 0; k < OWN_WORDS.length; k++) {
                if (OWN_WORDS[k] == word) {
                    return true;
                }
            }
            return false;
        }
    }

    /** MEN and NAMES. */
    private static final class Roll {
        private final int[] ownName = new int[MOST_MEN];
        private final int[] purse = new int[MOST_MEN];
        private final int[] foes = new int[MOST_MEN];
        private final int[] word = new int[MOST_NAMES];
        private final int[] owner = new int[MOST_NAMES];
        private int men;
        private int names;
        private int pairs;

        boolean hasMan(int m) {
            return m >= 0 && m < men;
        }

        boolean hasName(int n) {
            return n >= 0 && n < names;
        }

        int allNames() {
            return (1 << names) - 1;
        }

        int find(int told) {
            for (int n = 0; n < names; n++) {
                if (word[n] == told) {
                    return n;
                }
            }
            return NONE;
        }

        void addName(int told, int m) {
            if (names < MOST_NAMES) {
                word[names] = told;
                owner[names] = m;
                names++;
            }
        }

        void addMan(int told, int hisPurse) {
            if (men < MOST_MEN) {
                ownName[men] = names;
                purse[men] = hisPurse;
                foes[men] = 0;
                addName(told, men);
                men++;
            }
        }

        void addFoes(int a, int b) {
            if (hasMan(a) && hasMan(b)) {
                foes[a] |= 1 << b;
                foes[b] |= 1 << a;
                pairs++;
            }
        }

        void clear() {
            men = 0;
            names = 0;
            pairs = 0;
        }

        void copyFrom(Roll other) {
            System.arraycopy(other.ownName, 0, ownName, 0, MOST_MEN);
            System.arraycopy(other.purse, 0, purse, 0, MOST_MEN);
            System.arraycopy(other.foes, 0, foes, 0, MOST_MEN);
            System.arraycopy(other.word, 0, word, 0, MOST_NAMES);
            System.arraycopy(other.owner, 0, owner, 0, MOST_NAMES);
            men = other.men;
            names = other.names;
            pairs = other.pairs;
        }
    }

    /** Who comes when, and the NAME that he gave then: only he who comes can give one. */
    private static final class Comings {
        private final int[] man = new int[MOST_TOLD];
        private final int[] day = new int[MOST_TOLD];
        private final int[] in = new int[MOST_TOLD];
        private final int[] out = new int[MOST_TOLD];
        private final int[] given = new int[MOST_TOLD];
        private int size;

        void add(int m, int onDay, int from, int to) {
            if (size < MOST_TOLD) {
                man[size] = m;
                day[size] = onDay;
                in[size] = from;
                out[size] = to;
                given[size] = NONE;
                size++;
            }
        }

        int find(int m, int onDay) {
            for (int c = 0; c < size; c++) {
                if (man[c] == m && day[c] == onDay) {
                    return c;
                }
            }
            return NONE;
        }

        private boolean isAhead(int c, int of) {
            return in[c] < in[of] || in[c] == in[of] && man[c] < man[of];
        }

        /** Puts the COMERS of a DAY into the row, in order: how many. */
        int lineUp(int onDay, int[] row) {
            int comers = 0;
            for (int c = 0; c < size; c++) {
                if (day[c] == onDay && comers < row.length) {
                    int k = comers;
                    for (; k > 0 && isAhead(c, row[k - 1]); k--) {
                        row[k] = row[k - 1];
                    }
                    row[k] = c;
                    comers++;
                }
            }
            return comers;
        }

        boolean isWaitedFor(int c) {
            for (int other = 0; other < size; other++) {
                if (day[other] == day[c] && given[other] == NONE && isAhead(other, c)) {
                    return true;
                }
            }
            return false;
        }

        int givenBy(int m, int onDay) {
            int c = find(m, onDay);
            return c == NONE ? NONE : given[c];
        }

        int giver(int n, int onDay) {
            for (int c = 0; c < size; c++) {
                if (given[c] == n && day[c] == onDay) {
                    return man[c];
                }
            }
            return NONE;
        }

        int givenNames(int onDay) {
            int names = 0;
            for (int c = 0; c < size; c++) {
                if (day[c] == onDay && given[c] != NONE) {
                    names |= 1 << given[c];
                }
            }
            return names;
        }

        int present(int onDay, int minute) {
            int men = 0;
            for (int c = 0; c < size; c++) {
                if (day[c] == onDay && in[c] <= minute && minute <= out[c]) {
                    men |= 1 << man[c];
                }
            }
            return men;
        }

        boolean overlap(int a, int b, int onDay) {
            int one = find(a, onDay);
            int other = find(b, onDay);
            return one != NONE && other != NONE && in[one] <= out[other] && in[other] <= out[one];
        }

        void copyFrom(Comings other) {
            System.arraycopy(other.man, 0, man, 0, MOST_TOLD);
            System.arraycopy(other.day, 0, day, 0, MOST_TOLD);
            System.arraycopy(other.in, 0, in, 0, MOST_TOLD);
            System.arraycopy(other.out, 0, out, 0, MOST_TOLD);
            System.arraycopy(other.given, 0, given, 0, MOST_TOLD);
            size = other.size;
        }
    }

    /** What NAMES bring, by the odds, in PARTS. */
    private static final class Gains {
        private final int[] name = new int[MOST_TOLD];
        private final int[] day = new int[MOST_TOLD];
        private final int[] parts = new int[MOST_TOLD];
        private int size;

        void add(int n, int onDay, int worth) {
            if (size < MOST_TOLD) {
                name[size] = n;
                day[size] = onDay;
                parts[size] = worth;
                size++;
            }
        }

        void copyFrom(Gains other) {
            System.arraycopy(other.name, 0, name, 0, MOST_TOLD);
            System.arraycopy(other.day, 0, day, 0, MOST_TOLD);
            System.arraycopy(other.parts, 0, parts, 0, MOST_TOLD);
            size = other.size;
        }
    }

    /** Which NAMES owe which. */
    private static final class Owings {
        private final int[] from = new int[MOST_TOLD];
        private final int[] to = new int[MOST_TOLD];
        private final int[] day = new int[MOST_TOLD];
        private final int[] sum = new int[MOST_TOLD];
        private int size;

        void add(int debtor, int creditor, int onDay, int amount) {
            if (size < MOST_TOLD) {
                from[size] = debtor;
                to[size] = creditor;
                day[size] = onDay;
                sum[size] = amount;
                size++;
            }
        }

        void copyFrom(Owings other) {
            System.arraycopy(other.from, 0, from, 0, MOST_TOLD);
            System.arraycopy(other.to, 0, to, 0, MOST_TOLD);
            System.arraycopy(other.day, 0, day, 0, MOST_TOLD);
            System.arraycopy(other.sum, 0, sum, 0, MOST_TOLD);
            size = other.size;
        }
    }

    /** For each LINE the NAME, and the MEN (bits) who may have it by this LINE. */
    private static final class Sights {
        private final int[] name = new int[MOST_SIGHTS];
        private final int[] men = new int[MOST_SIGHTS];
        private int size;

        void add(int n, int who) {
            if (size < MOST_SIGHTS) {
                name[size] = n;
                men[size] = who;
                size++;
            }
        }

        boolean allow(int n, int m) {
            for (int s = 0; s < size; s++) {
                if (name[s] == n && !isIn(m, men[s])) {
                    return false;
                }
            }
            return true;
        }

        void copyFrom(Sights other) {
            System.arraycopy(other.name, 0, name, 0, MOST_SIGHTS);
            System.arraycopy(other.men, 0, men, 0, MOST_SIGHTS);
            size = other.size;
        }
    }

    /** All that an image keeps. */
    private static final class Town {
        private final Roll roll = new Roll();
        private final Comings comings = new Comings();
        private final Gains gains = new Gains();
        private final Owings owings = new Owings();
        private final Sights sights = new Sights();
        private int today;

        void clear() {
            roll.clear();
            comings.size = 0;
            gains.size = 0;
            owings.size = 0;
            sights.size = 0;
            today = 0;
        }

        void copyFrom(Town other) {
            roll.copyFrom(other.roll);
            comings.copyFrom(other.comings);
            gains.copyFrom(other.gains);
            owings.copyFrom(other.owings);
            sights.copyFrom(other.sights);
            today = other.today;
        }

        /** The MEANS of all NAMES on a DAY, in PARTS, into a row that has a place for each. */
        void sumMeans(int day, long[] row) {
            Arrays.fill(row, 0);
            for (int g = 0; g < gains.size; g++) {
                if (gains.day[g] == day && gains.name[g] < row.length) {
                    row[gains.name[g]] += gains.parts[g];
                }
            }
            for (int o = 0; o < owings.size; o++) {
                if (owings.day[o] == day && owings.from[o] < row.length
                        && owings.to[o] < row.length) {
                    row[owings.from[o]] -= (long) owings.sum[o] * PARTS;
                    row[owings.to[o]] += (long) owings.sum[o] * PARTS;
                }
            }
        }

        int debtOf(int a, int b) {
            int sum = 0;
            for (int o = 0; o < owings.size; o++) {
                int day = owings.day[o];
                if (comings.giver(owings.from[o], day) == a
                        && comings.giver(owings.to[o], day) == b) {
                    sum += owings.sum[o];
                }
            }
            return sum;
        }

        /** What each is to have by all DEBTS less what he is to pay, into the row: all DEBTS. */
        int sumBalances(int[] row) {
            Arrays.fill(row, 0);
            int all = 0;
            for (int o = 0; o < owings.size; o++) {
                int a = comings.giver(owings.from[o], owings.day[o]);
                int b = comings.giver(owings.to[o], owings.day[o]);
                if (a >= 0 && a < row.length && b >= 0 && b < row.length) {
                    row[a] -= owings.sum[o];
                    row[b] += owings.sum[o];
                    all += owings.sum[o];
                }
            }
            return all;
        }
    }

    /** Reads TOWN and SIGHTS; the TOKEN at which it stops is the one with the FAULT. */
    private static final class Reader {
        private static final int CANNOT_COME = 1;
        private static final int WRONG_NUMBER = 2;
        private static final int WRONG_NAME = 3;
        private static final int TOO_MANY = 4;

        private final Tape tape = new Tape();
        private int fault;

        int readTown(Town town) {
            town.clear();
            fault = 0;
            tape.begin(TOWN_BYTES);
            int lines = 0;
            // A LINE has a byte at least.
            for (int step = 0; step <= TAPE_BYTES; step++) {
                tape.advance();
                if (tape.kind == Tape.END) {
                    return lines;
                }
                if (!readLine(town)) {
                    return -1 - tape.place;
                }
                lines++;
            }
            return lines;
        }

        private boolean readLine(Town town) {
            if (tape.kind != Tape.OWN_WORD) {
                return fail(CANNOT_COME);
            }
            switch (tape.value) {
                case MAN:
                    return readMan(town.roll);
                case NAME:
                    return readName(town.roll);
                case COMES:
                    return readComes(town.roll, town.comings);
                case BRINGS:
                    return readBrings(town.roll, town.gains);
                case OWES:
                    return readOwes(town.roll, town.owings);
                case FOES:
                    return readFoes(town.roll);
                default:
                    return fail(CANNOT_COME);
            }
        }

        private boolean readMan(Roll roll) {
            if (roll.men >= MOST_MEN || roll.names >= MOST_NAMES) {
                return fail(TOO_MANY);
            }
            if (!takeNewName(roll)) {
                return false;
            }
            int told = tape.value;
            int purse = NONE;
            tape.advance();
            if (tape.isWord(PURSE)) {
                purse = takeNumber(0, PURSES - 1);
                if (purse == NONE) {
                    return false;
                }
                tape.advance();
            }
            roll.addMan(told, purse);
            return closes();
        }

        private boolean readName(Roll roll) {
            if (roll.names >= MOST_NAMES) {
                return fail(TOO_MANY);
            }
            if (!takeNewName(roll)) {
                return false;
            }
            roll.addName(tape.value, NONE);
            return takeClose();
        }

        private boolean readComes(Roll roll, Comings comings) {
            if (comings.size >= MOST_TOLD) {
                return fail(TOO_MANY);
            }
            tape.advance();
            int m = manHere(roll);
            if (m == NONE) {
                return false;
            }
            int day = takeNumber(0, DAYS - 1);
            if (day == NONE) {
                return false;
            }
            if (comings.find(m, day) != NONE) {
                return fail(WRONG_NAME);
            }
            int from = takeNumber(0, MINUTES - 1);
            if (from == NONE) {
                return false;
            }
            int to = takeNumber(from, MINUTES - 1);
            if (to == NONE) {
                return false;
            }
            comings.add(m, day, from, to);
            return takeClose();
        }

        private boolean readBrings(Roll roll, Gains gains) {
            if (gains.size >= MOST_TOLD) {
                return fail(TOO_MANY);
            }
            int n = takeName(roll);
            if (n == NONE) {
                return false;
            }
            int day = takeNumber(0, DAYS - 1);
            if (day == NONE) {
                return false;
            }
            tape.advance();
            boolean loss = tape.isSign('-');
            if (loss) {
                tape.advance();
            }
            int amount = numberHere(0, MOST_AMOUNT);
            if (amount == NONE) {
                return false;
            }
            int odds = takeOdds();
            if (odds == NONE) {
                return false;
            }
            gains.add(n, day, loss ? -amount * odds : amount * odds);
            return closes();
        }

        /** The odds in PARTS, with the TOKEN behind them at hand; NONE: there is a FAULT. */
        private int takeOdds() {
            tape.advance();
            if (!tape.isSign('/')) {
                return PARTS;
            }
            tape.advance();
            int k = numberHere(0, MOST_ODDS);
            if (k == NONE) {
                return NONE;
            }
            tape.advance();
            int of = numberHere(Math.max(1, k), MOST_ODDS);
            if (of <= 0) {
                return NONE;
            }
            tape.advance();
            return k * (PARTS / of);
        }

        private boolean readOwes(Roll roll, Owings owings) {
            if (owings.size >= MOST_TOLD) {
                return fail(TOO_MANY);
            }
            int debtor = takeName(roll);
            if (debtor == NONE) {
                return false;
            }
            int creditor = takeName(roll);
            if (creditor == NONE) {
                return false;
            }
            if (creditor == debtor) {
                return fail(WRONG_NAME);
            }
            int day = takeNumber(0, DAYS - 1);
            if (day == NONE) {
                return false;
            }
            int amount = takeNumber(1, MOST_AMOUNT);
            if (amount == NONE) {
                return false;
            }
            owings.add(debtor, creditor, day, amount);
            return takeClose();
        }

        private boolean readFoes(Roll roll) {
            tape.advance();
            int a = manHere(roll);
            if (a == NONE) {
                return false;
            }
            tape.advance();
            int b = manHere(roll);
            if (b == NONE) {
                return false;
            }
            if (a == b || isIn(b, roll.foes[a])) {
                return fail(WRONG_NAME);
            }
            roll.addFoes(a, b);
            return takeClose();
        }

        int readSights(Roll roll, Sights sights) {
            sights.size = 0;
            fault = 0;
            tape.begin(SIGHTS_BYTES);
            for (int step = 0; step <= TAPE_BYTES; step++) {
                tape.advance();
                if (tape.kind == Tape.END) {
                    return sights.size;
                }
                if (!readSight(roll, sights)) {
                    return -1 - tape.place;
                }
            }
            return sights.size;
        }

        private boolean readSight(Roll roll, Sights sights) {
            int n = nameHere(roll);
            if (n == NONE) {
                return false;
            }
            if (sights.size >= MOST_SIGHTS) {
                return fail(TOO_MANY);
            }
            tape.advance();
            boolean not = tape.isWord(NOT);
            if (!not && !tape.isWord(IS)) {
                return fail(CANNOT_COME);
            }
            int men = takeMen(roll);
            if (men == NONE) {
                return false;
            }
            sights.add(n, not ? ~men : men);
            return closes();
        }

        /** One MAN or more (bits), with the TOKEN behind them at hand; NONE: there is a FAULT. */
        private int takeMen(Roll roll) {
            int men = 0;
            tape.advance();
            for (int step = 0; step <= SIGHTS_BYTES; step++) {
                int m = manHere(roll);
                if (m == NONE) {
                    return NONE;
                }
                men |= 1 << m;
                tape.advance();
                if (tape.isSign(';')) {
                    break;
                }
            }
            return men;
        }

        private boolean takeNewName(Roll roll) {
            tape.advance();
            if (tape.kind != Tape.FREE_WORD) {
                return fail(CANNOT_COME);
            }
            return roll.find(tape.value) == NONE || fail(WRONG_NAME);
        }

        private int takeName(Roll roll) {
            tape.advance();
            return nameHere(roll);
        }

        private int nameHere(Roll roll) {
            if (tape.kind != Tape.FREE_WORD) {
                fail(CANNOT_COME);
                return NONE;
            }
            int n = roll.find(tape.value);
            if (n == NONE) {
                fail(WRONG_NAME);
            }
            return n;
        }

        private int manHere(Roll roll) {
            int n = nameHere(roll);
            if (n == NONE) {
                return NONE;
            }
            if (roll.owner[n] == NONE) {
                fail(WRONG_NAME);
            }
            return roll.owner[n];
        }

        private int takeNumber(int least, int most) {
            tape.advance();
            return numberHere(least, most);
        }

        private int numberHere(int least, int most) {
            if (tape.kind != Tape.NUMBER) {
                fail(CANNOT_COME);
                return NONE;
            }
            if (tape.value < least || tape.value > most) {
                fail(WRONG_NUMBER);
                return NONE;
            }
            return tape.value;
        }

        private boolean takeClose() {
            tape.advance();
            return closes();
        }

        private boolean closes() {
            return tape.isSign(';') || fail(CANNOT_COME);
        }

        private boolean fail(int kind) {
            fault = kind;
            return false;
        }
    }

    /** MATCHED of some of a DAY's COMERS. */
    private static final class Market {
        private final long[] means = new long[MOST_NAMES];
        private final int[] ranked = new int[MOST_NAMES];
        private final int[] man = new int[MOST_MEN];
        private final int[] ownName = new int[MOST_MEN];
        private int size;

        void open(Town town, int day, int purse) {
            town.sumMeans(day, means);
            rank(town.roll.names);
            size = 0;
            for (int m = 0; m < town.roll.men; m++) {
                boolean asked = purse == NONE || town.roll.purse[m] == purse;
                if (asked && size < MOST_MEN && town.comings.find(m, day) != NONE) {
                    man[size] = m;
                    ownName[size] = town.roll.ownName[m];
                    size++;
                }
            }
        }

        /** Puts the NAMES in order, the greatest MEAN first; places behind them are NONE. */
        private void rank(int names) {
            Arrays.fill(ranked, NONE);
            for (int n = 0; n < names && n < MOST_NAMES; n++) {
                int k = n;
                for (; k > 0 && means[n] > means[ranked[k - 1]]; k--) {
                    ranked[k] = ranked[k - 1];
                }
                ranked[k] = n;
            }
        }

        /**
         * The most that those from a place on can have by these NAMES; IMPOSSIBLE: not each can
         * have one. Two or more can share any NAMES, as many as they are: each is barred from one
         * alone, and no two from the same one. So only the last one's own NAME matters.
         */
        long most(int from, int names) {
            int takers = size - from;
            int barred = takers == 1 ? 1 << ownName[from] : 0;
            int taken = 0;
            long sum = 0;
            for (int k = 0; k < MOST_NAMES && taken < takers; k++) {
                int n = ranked[k];
                if (n != NONE && isIn(n, names & ~barred)) {
                    sum += means[n];
                    taken++;
                }
            }
            return taken == takers ? sum : IMPOSSIBLE;
        }

        /** The first that is the most: each in turn has the least NAME that keeps the sum. */
        void choose(int names, int[] chosen) {
            Arrays.fill(chosen, NONE);
            int left = names;
            for (int i = 0; i < size; i++) {
                int n = leastThatKeeps(i, left);
                if (n != NONE && man[i] < chosen.length) {
                    chosen[man[i]] = n;
                    left &= ~(1 << n);
                }
            }
        }

        private int leastThatKeeps(int i, int left) {
            long whole = most(i, left);
            for (int n = 0; n < MOST_NAMES; n++) {
                if (n != ownName[i] && isIn(n, left)) {
                    long rest = most(i + 1, left & ~(1 << n));
                    if (rest != IMPOSSIBLE && rest + means[n] == whole) {
                        return n;
                    }
                }
            }
            return NONE;
        }
    }

    /** Counts the ways of a LOT. */
    private static final class Lot {

        /** Ways for men to have a name each, some of them barred each from one, all unlike. */
        static long ways(int men, int names, int barred) {
            long sum = 0;
            long choices = 1;
            for (int wrong = 0; wrong <= barred; wrong++) {
                long ways = choices * inOrder(men - wrong, names - wrong);
                sum += wrong % 2 == 0 ? ways : -ways;
                choices = choices * (barred - wrong) / (wrong + 1);
            }
            return sum;
        }

        private static long inOrder(int men, int names) {
            long ways = 1;
            for (int k = 0; k < men; k++) {
                ways *= Math.max(0, names - k);
            }
            return ways;
        }
    }

    /** HOLDS: NAMES given and their givers, each numbered from 0 in rising order. */
    private static final class Guess {
        private static final int SETS = 1 << MOST_MEN;
        private static final int LONGS = SETS / LONG_BITS;
        /** The k-th has a bit for each of 64 sets of men that is without man k. */
        private static final long[] WITHOUT = {
            0x5555555555555555L, 0x3333333333333333L, 0x0f0f0f0f0f0f0f0fL,
            0x00ff00ff00ff00ffL, 0x0000ffff0000ffffL, 0x00000000ffffffffL};

        private final int[] name = new int[MOST_MEN];
        private final int[] man = new int[MOST_MEN];
        /** For each name the men who may have it. */
        private final int[] may = new int[MOST_MEN];
        /** Ways in which just these men have the first names, as many as they are. */
        private final int[] ahead = new int[SETS];
        /** Ways in which all but these men have the names behind those. */
        private final int[] behind = new int[SETS];
        private final int[] tally = new int[MOST_MEN];
        /** For each set of names, LONGS with a bit for each set of men who can have just these. */
        private final long[] fits = new long[SETS * LONGS];
        /** For each set of names, 1 if it leaves the one who is asked about unknown. */
        private final byte[] vague = new byte[SETS];
        private int size;
        /** All of the men, or all of the names, as bits. */
        private int everyone;

        void open(Town town) {
            int names = 0;
            for (int n = 0; n < town.roll.names; n++) {
                if (names < MOST_MEN && town.comings.giver(n, town.today) != NONE) {
                    name[names] = n;
                    names++;
                }
            }
            int men = 0;
            for (int m = 0; m < town.roll.men && m < MOST_MEN; m++) {
                if (town.comings.givenBy(m, town.today) != NONE) {
                    man[men] = m;
                    men++;
                }
            }
            size = Math.min(names, men);
            for (int i = 0; i < size; i++) {
                may[i] = 0;
                for (int j = 0; j < size; j++) {
                    boolean own = name[i] == town.roll.ownName[man[j]];
                    if (!own && town.sights.allow(name[i], man[j])) {
                        may[i] |= 1 << j;
                    }
                }
            }
            everyone = (1 << size) - 1;
            countAhead();
        }

        /** Opens it for those too who ask about single names. */
        void openWhole(Town town) {
            open(town);
            countBehind();
        }

        private void countAhead() {
            ahead[0] = 1;
            for (int men = 1; men <= everyone; men++) {
                int takers = men & may[Integer.bitCount(men) - 1];
                int ways = 0;
                for (int j = 0; j < size; j++) {
                    if ((takers >> j & 1) != 0) {
                        ways += ahead[men & ~(1 << j)];
                    }
                }
                ahead[men] = ways;
            }
        }

        private void countBehind() {
            behind[everyone] = 1;
            for (int men = everyone - 1; men >= 0; men--) {
                int takers = ~men & may[Integer.bitCount(men)];
                int ways = 0;
                for (int j = 0; j < size; j++) {
                    if ((takers >> j & 1) != 0) {
                        ways += behind[men | 1 << j];
                    }
                }
                behind[men] = ways;
            }
        }

        int all() {
            return ahead[everyone];
        }

        int indexOfName(int n) {
            for (int i = 0; i < size; i++) {
                if (name[i] == n) {
                    return i;
                }
            }
            return NONE;
        }

        int indexOfMan(int m) {
            for (int j = 0; j < size; j++) {
                if (man[j] == m) {
                    return j;
                }
            }
            return NONE;
        }

        /** Counts for each man the HOLDS in which he has the i-th name. */
        private void countHolders(int i) {
            Arrays.fill(tally, 0);
            for (int men = 0; men <= everyone; men++) {
                if (Integer.bitCount(men) == i && ahead[men] > 0) {
                    for (int j = 0; j < size; j++) {
                        if (isIn(j, ~men & may[i])) {
                            tally[j] += ahead[men] * behind[men | 1 << j];
                        }
                    }
                }
            }
        }

        int holders(int i) {
            if (i < 0 || i >= size) {
                return NONE;
            }
            countHolders(i);
            int men = 0;
            for (int j = 0; j < size; j++) {
                if (tally[j] > 0) {
                    men |= 1 << man[j];
                }
            }
            return men;
        }

        int mostLeft(int i) {
            if (i < 0 || i >= size) {
                return NONE;
            }
            countHolders(i);
            int most = 0;
            for (int j = 0; j < size; j++) {
                most = Math.max(most, tally[j]);
            }
            return most;
        }

        /** QUESTIONS about the j-th man: bits of NAMES. */
        int fewestAbout(int j) {
            fillFits();
            int fewest = everyone;
            for (int names = everyone; names >= 0; names--) {
                vague[names] = (byte) (isPartOfVague(names) || leavesUnknown(names, j) ? 1 : 0);
                if (vague[names] == 0 && Integer.bitCount(names) <= Integer.bitCount(fewest)) {
                    fewest = names;
                }
            }
            int bits = 0;
            for (int i = 0; i < size; i++) {
                if (isIn(i, fewest)) {
                    bits |= 1 << name[i];
                }
            }
            return bits;
        }

        private void fillFits() {
            Arrays.fill(fits, 0);
            fits[0] = 1;
            for (int names = 1; names <= everyone; names++) {
                int i = Integer.numberOfTrailingZeros(names);
                for (int j = 0; j < size; j++) {
                    if (i < size && isIn(j, may[i])) {
                        addHolder(names & ~(1 << i), names, j);
                    }
                }
            }
        }

        /** Sets of men for the lesser set of names, with one man more, are some for the greater. */
        private void addHolder(int lesser, int greater, int j) {
            int last = everyone / LONG_BITS;
            for (int k = 0; k <= last; k++) {
                long sets = fits[lesser * LONGS + k];
                if (j < WITHOUT.length) {
                    fits[greater * LONGS + k] |= (sets & WITHOUT[j]) << (1 << j);
                } else if (!isIn(j - WITHOUT.length, k)) {
                    fits[greater * LONGS + (k | 1 << (j - WITHOUT.length))] |= sets;
                }
            }
        }

        private boolean isFit(int names, int men) {
            return (fits[names * LONGS + men / LONG_BITS] >>> men % LONG_BITS & 1) != 0;
        }

        /** Who knows less than one to whom he is unknown does not know him either. */
        private boolean isPartOfVague(int names) {
            for (int i = 0; i < size; i++) {
                if (!isIn(i, names) && vague[names | 1 << i] != 0) {
                    return true;
                }
            }
            return false;
        }

        /** Whether others can have these names so that the man still may have one or another. */
        private boolean leavesUnknown(int names, int j) {
            int others = everyone & ~(1 << j);
            for (int k = 0; k < LONGS; k++) {
                long sets = fits[names * LONGS + k];
                for (int step = 0; step < LONG_BITS && sets != 0; step++) {
                    int men = k * LONG_BITS + Long.numberOfTrailingZeros(sets);
                    sets &= sets - 1;
                    if (!isIn(j, men) && hasChoice(everyone & ~names, others & ~men, j)) {
                        return true;
                    }
                }
            }
            return false;
        }

        /** Whether the man may have two of these names, the other men all the rest of them. */
        private boolean hasChoice(int names, int men, int j) {
            int found = 0;
            for (int i = 0; i < size; i++) {
                if (isIn(i, names) && isIn(j, may[i]) && isFit(names & ~(1 << i), men)) {
                    found++;
                }
            }
            return found > 1;
        }
    }
}
