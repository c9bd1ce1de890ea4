/** For each promise of the document: ordinary inputs, the edges that it names, wrong inputs. */
public final class PromisesTest {

    private static final int[] WILD = {-2, 30, 100, 255, Integer.MAX_VALUE, Integer.MIN_VALUE};

    /** MEN a, b, c; NAMES 0 to 3. MEANS on DAY 0: 16, -4, -6, 5; on DAY 1: 0, 0, 0, 7/3. */
    private static final String TOWN = "man a purse 1;man b purse 1;man c;name x;"
            + "comes a 0 5 20;comes b 0 3 9;comes c 0 5 30;comes a 1 0 9;"
            + "brings a 0 10;brings b 0 -4;brings x 0 20/1 4;brings x 1 7/1 3;"
            + "owes c a 0 6;foes a b;";

    private static GateNames x;

    public static void main(String[] args) {
        tapePromises();
        tellingPromises();
        givingPromises();
        debtPromises();
        namePromises();
        gatePromises();
        lotPromises();
        sightPromises();
        keepingPromises();
        Check.end("PromisesTest");
    }

    private static void due(String call, long got, long want) {
        Check.due(call, got, want);
    }

    private static void tapePromises() {
        promise1();
        promise2();
        promise3();
        promise4();
        promise5();
    }

    private static void tellingPromises() {
        promise6();
        promise7();
        promise8();
        promise9();
        promise10();
    }

    private static void givingPromises() {
        promise11();
        promise12and13();
        promise14();
        promise15and16();
        promise17();
    }

    private static void debtPromises() {
        promise18and19();
        promise20();
    }

    private static void namePromises() {
        promise21and22();
        promise22ties();
        promise23();
        promise24and25();
        promise26();
        promise29();
    }

    private static void gatePromises() {
        promise27();
        promise28();
        promise33();
        promise34();
    }

    private static void lotPromises() {
        promise30();
        promise31();
        promise32();
    }

    private static void sightPromises() {
        promise35();
        promise36to39();
        promise39none();
        promise40();
    }

    private static void keepingPromises() {
        promise41();
        promise42and43();
        promise44();
    }

    private static void promise1() {
        x = new GateNames();
        for (int what = 0; what <= 9; what++) {
            due("count of a new object", x.count(what), 0);
        }
        due("holds of a new object", x.holds(), 1);
        due("lots of a new object", x.lots(29), 1);
        due("idle of a new object", x.idle(0), 0);
        due("fault of a new object", x.fault(), 0);
        due("matched of a new object", x.matched(0, -1, 0), 0);
        due("matched of a new object", x.matched(0, -1, 1), 1);
        due("serial of a new object", x.serial(0, 1), 1);
        due("rests of a new object", x.rests(), 1);
    }

    private static void promise2() {
        x = new GateNames();
        for (int k = 1; k <= 47; k++) {
            due("feed", x.feed(0x6e616d65, 0x20612020, 0x20202020, 0x20202020, 0x20200a3b), 20 * k);
            due("bytes", x.count(9), 20 * k);
        }
        due("feed beyond 940", x.feed(0, 0, 0, 0, 0), -1);
        due("none came", x.count(9), 940);
        due("end", x.end(921) ? 1 : 0, 1);
        due("feed beyond 940", x.feed(0, 0, 0, 0, 0), -1);
        due("none came", x.count(9), 921);
        due("end", x.end(20) ? 1 : 0, 1);
        due("the highest byte is first", x.town(), 1);
        due("feed of an empty tape", x.feed(-1, -1, -1, -1, -1), 20);
        due("a byte above 127", x.town(), -1);
    }

    private static void promise3() {
        x = new GateNames();
        due("end(0)", x.end(0) ? 1 : 0, 1);
        due("end(1)", x.end(1) ? 1 : 0, 0);
        due("end(-1)", x.end(-1) ? 1 : 0, 0);
        Check.feed(x, "name a;!!!");
        due("end beyond", x.end(11) ? 1 : 0, 0);
        due("end below", x.end(Integer.MIN_VALUE) ? 1 : 0, 0);
        due("end beyond", x.end(Integer.MAX_VALUE) ? 1 : 0, 0);
        due("it stays", x.count(9), 10);
        due("end at its end", x.end(10) ? 1 : 0, 1);
        due("end", x.end(7) ? 1 : 0, 1);
        due("bytes", x.count(9), 7);
        due("the first ones", x.town(), 1);
    }

    private static void promise4() {
        x = Check.with(TOWN);
        due("tape behind town()", x.count(9), 0);
        due("give", x.give(1, 0), 0);
        due("dawn", x.dawn(), 1);
        due("no TOWN", Check.town(x, "man a;man b;man !"), -1 - 16);
        due("tape behind a FAULT", x.count(9), 0);
        due("the old TOWN", x.count(0), 3);
        due("its DAY", x.count(6), 1);
        due("its NAMES given", x.gave(1, 0), 0);
        due("an empty TOWN", x.town(), 0);
        due("no MEN", x.count(0), 0);
        due("DAY 0", x.count(6), 0);
        due("nothing given", x.gave(1, 0), -1);
    }

    private static void promise5() {
        x = new GateNames();
        due("ahead of any", x.fault(), 0);
        Check.town(x, "!");
        due("1", x.fault(), 1);
        Check.town(x, "man a purse 7;");
        due("2", x.fault(), 2);
        Check.sights(x, "a is a;");
        due("3", x.fault(), 3);
        due("asked again", x.fault(), 3);
        x.rests();
        x.image(0);
        x.restore(0);
        due("only town() and sights() tell one", x.fault(), 3);
        Check.town(x, "name a;name b;name c;name d;name e;name f;name g;name h;name i;name j;"
                + "name k;name l;name m;");
        due("4", x.fault(), 4);
        Check.sights(x, "");
        due("0", x.fault(), 0);
    }

    private static void promise6() {
        x = Check.with("name z;man a;name y;man b purse 0;man c purse 3;foes c a;foes b c;");
        int[][] want = {{1, -1, 4}, {3, 0, 4}, {4, 3, 3}};
        for (int m = 0; m < 3; m++) {
            for (int what = 0; what < 3; what++) {
                due("man(" + m + ", " + what + ")", x.man(m, what), want[m][what]);
            }
        }
        Check.dueThrow("man(3, 0)", () -> x.man(3, 0));
        Check.dueThrow("man(-1, 0)", () -> x.man(-1, 0));
        Check.dueThrow("man(0, 3)", () -> x.man(0, 3));
        Check.dueThrow("man(0, -1)", () -> x.man(0, -1));
        for (int wild : WILD) {
            Check.dueThrow("man of none", () -> x.man(wild, 0));
            Check.dueThrow("man of none", () -> x.man(0, wild));
        }
    }

    private static void promise7() {
        x = Check.with("name z;man a;name y;man b;");
        int[] want = {-1, -1, 0, -1, 1, -1};
        for (int n = -1; n < 5; n++) {
            due("owner(" + n + ")", x.owner(n), want[n + 1]);
        }
        for (int wild : WILD) {
            due("owner of none", x.owner(wild), -1);
        }
    }

    private static void promise8() {
        x = Check.with("man a;man b;man c;man d;comes d 3 7 8;comes c 3 2 99;comes b 3 7 7;"
                + "comes a 4 1 1;comes a 3 99 99;");
        int[] want = {4, 2, 1, 3, 0, -1};
        for (int k = -1; k < 5; k++) {
            due("comer(3, " + k + ")", x.comer(3, k), want[k + 1]);
        }
        due("comer(4, -1)", x.comer(4, -1), 1);
        due("comer(5, -1)", x.comer(5, -1), 0);
        due("comer(29, -1)", x.comer(29, -1), 0);
        due("comer(-1, -1)", x.comer(-1, -1), -1);
        for (int wild : WILD) {
            due("comer on no DAY", x.comer(wild, -1), -1);
            due("comer of none", x.comer(3, wild), -1);
        }
    }

    private static void promise9() {
        x = Check.with(TOWN);
        due("when(0, 0, 0)", x.when(0, 0, 0), 5);
        due("when(0, 0, 1)", x.when(0, 0, 1), 20);
        due("when(0, 1, 0)", x.when(0, 1, 0), 0);
        due("when(2, 0, 1)", x.when(2, 0, 1), 30);
        due("he does not come", x.when(1, 1, 0), -1);
        for (int wild : WILD) {
            due("when of none", x.when(wild, 0, 0), -1);
            due("when on no DAY", x.when(0, wild, 0), -1);
            due("when of no such", x.when(0, 0, wild), -1);
        }
        due("when(0, 0, 2)", x.when(0, 0, 2), -1);
        due("when(0, 0, -1)", x.when(0, 0, -1), -1);
        due("when(-1, 0, 0)", x.when(-1, 0, 0), -1);
    }

    private static void promise10() {
        x = Check.with("man a;name b;name c;brings a 0 5/3 10;brings a 0 -7/2 9;brings a 0 1/0 7;"
                + "owes b a 0 4;owes a c 0 9;owes a b 1 2;brings b 1 99/11 12;brings c 29 -99/5 11;");
        mean(0, 0, -91, 18);
        mean(1, 0, -4, 1);
        mean(2, 0, 9, 1);
        mean(0, 1, -2, 1);
        mean(1, 1, 371, 4);
        mean(2, 29, -45, 1);
        mean(2, 28, 0, 1);
        Check.dueThrow("mean(3, 0, 0)", () -> x.mean(3, 0, 0));
        Check.dueThrow("mean(-1, 0, 0)", () -> x.mean(-1, 0, 0));
        Check.dueThrow("mean(0, 0, 2)", () -> x.mean(0, 0, 2));
        for (int wild : WILD) {
            Check.dueThrow("mean of none", () -> x.mean(wild, 0, 0));
            Check.dueThrow("mean on no DAY", () -> x.mean(0, wild, 0));
            Check.dueThrow("mean of no such", () -> x.mean(0, 0, wild));
        }
    }

    private static void mean(int n, int day, long above, long below) {
        due("mean(" + n + ", " + day + ", 0)", x.mean(n, day, 0), above);
        due("mean(" + n + ", " + day + ", 1)", x.mean(n, day, 1), below);
    }

    private static void promise11() {
        x = Check.with(TOWN + "man d;");
        due("1 ahead of all", x.give(3, 4), 1);
        due("5 he must wait", x.give(0, 3), 5);
        due("3 ahead of 5", x.give(0, 0), 3);
        due("3 his own", x.give(1, 1), 3);
        due("given", x.give(1, 3), 0);
        due("2 gave already", x.give(1, 0), 2);
        due("2 ahead of 3", x.give(1, 1), 2);
        due("2 ahead of 4", x.give(1, 3), 2);
        due("4 given since dawn", x.give(0, 3), 4);
        due("4 ahead of 5", x.give(2, 3), 4);
        due("5 of like IN the lesser MAN is ahead", x.give(2, 0), 5);
        due("given", x.give(0, 2), 0);
        due("given", x.give(2, 4), 0);
        due("no such NAME", x.give(3, 5), -1);
        due("no such MAN", x.give(4, 0), -1);
        due("dawn", x.dawn(), 1);
        due("on another DAY again", x.give(0, 2), 0);
        due("back", x.back(), 0);
        due("taken back, it was not given", x.give(0, 2), 0);
        for (int wild : WILD) {
            due("give of none", x.give(wild, 0), -1);
            due("give of none", x.give(0, wild), -1);
        }
        due("give(-1, 0)", x.give(-1, 0), -1);
        due("give(0, -1)", x.give(0, -1), -1);
    }

    private static void promise12and13() {
        x = Check.with(TOWN);
        due("nothing given", x.gave(1, 0), -1);
        due("nothing given", x.bearer(3, 0), -1);
        x.give(1, 3);
        x.give(0, 1);
        x.dawn();
        x.give(0, 3);
        due("gave(1, 0)", x.gave(1, 0), 3);
        due("gave(0, 0)", x.gave(0, 0), 1);
        due("gave(2, 0)", x.gave(2, 0), -1);
        due("gave(0, 1)", x.gave(0, 1), 3);
        due("gave(0, 2)", x.gave(0, 2), -1);
        due("bearer(3, 0)", x.bearer(3, 0), 1);
        due("bearer(1, 0)", x.bearer(1, 0), 0);
        due("bearer(0, 0)", x.bearer(0, 0), -1);
        due("bearer(3, 1)", x.bearer(3, 1), 0);
        due("bearer(3, 2)", x.bearer(3, 2), -1);
        due("bearer(-1, 0)", x.bearer(-1, 0), -1);
        due("bearer(4, 0)", x.bearer(4, 0), -1);
        due("gave(3, 0)", x.gave(3, 0), -1);
        for (int wild : WILD) {
            due("gave of none", x.gave(wild, 0), -1);
            due("gave on no DAY", x.gave(0, wild), -1);
            due("bearer of none", x.bearer(wild, 0), -1);
            due("bearer on no DAY", x.bearer(0, wild), -1);
        }
    }

    private static void promise14() {
        x = Check.with(TOWN);
        due("all", x.idle(0), 15);
        x.give(1, 3);
        x.give(0, 1);
        due("two", x.idle(0), 5);
        due("not yet", x.idle(1), -1);
        x.dawn();
        due("all again", x.idle(1), 15);
        due("those of DAY 0", x.idle(0), 5);
        due("idle(-1)", x.idle(-1), -1);
        for (int wild : WILD) {
            due("idle on no DAY", x.idle(wild), -1);
        }
    }

    private static void promise15and16() {
        x = Check.with(TOWN);
        due("back on DAY 0", x.back(), -1);
        x.give(1, 3);
        x.give(0, 1);
        due("dawn", x.dawn(), 1);
        due("dawn", x.dawn(), 2);
        due("back a DAY", x.back(), 1);
        due("DAY 1", x.count(6), 1);
        x.give(0, 2);
        due("back a NAME", x.back(), 0);
        due("DAY 1 still", x.count(6), 1);
        due("taken back", x.gave(0, 1), -1);
        due("back a DAY", x.back(), 1);
        due("the latest NAME", x.back(), 0);
        due("of a", x.gave(0, 0), -1);
        due("not of b", x.gave(1, 0), 3);
        due("the one ahead", x.back(), 0);
        due("of b", x.gave(1, 0), -1);
        due("no more", x.back(), -1);
        for (int day = 1; day < 30; day++) {
            due("dawn", x.dawn(), day);
        }
        due("no DAY 30", x.dawn(), -1);
        due("it is 29", x.count(6), 29);
    }

    private static void promise17() {
        x = Check.with(TOWN);
        x.give(1, 0);
        x.give(0, 1);
        due("out(0, 0)", x.out(0, 0), -4);
        due("out(1, 0)", x.out(1, 0), 16);
        due("out(2, 0)", x.out(2, 0), 0);
        due("out(2, 1)", x.out(2, 1), 1);
        x.dawn();
        x.give(0, 3);
        due("both DAYS", x.out(0, 0), -5);
        due("both DAYS", x.out(0, 1), 3);
        x.dawn();
        due("later too", x.out(0, 0), -5);
        Check.dueThrow("out(3, 0)", () -> x.out(3, 0));
        Check.dueThrow("out(-1, 0)", () -> x.out(-1, 0));
        Check.dueThrow("out(0, 2)", () -> x.out(0, 2));
        for (int wild : WILD) {
            Check.dueThrow("out of none", () -> x.out(wild, 0));
            Check.dueThrow("out of no such", () -> x.out(0, wild));
        }
    }

    /** Each of three gives the NAME of the next; what NAMES owe runs in a ring. */
    private static GateNames ring() {
        GateNames y = Check.with("man a;man b;man c;comes a 0 1 1;comes b 0 2 2;comes c 0 3 3;"
                + "comes a 1 1 1;comes b 1 2 2;owes a b 0 10;owes b c 0 7;owes c a 0 4;owes b a 1 5;"
                + "owes b a 2 50;owes a b 0 1;");
        due("give", y.give(0, 1), 0);
        due("give", y.give(1, 2), 0);
        return y;
    }

    private static void promise18and19() {
        x = ring();
        due("of those given alone", x.debt(0, 1), 7);
        due("a is given by nobody", x.debt(2, 0), 0);
        due("give", x.give(2, 0), 0);
        due("a owes b", x.debt(2, 0), 11);
        due("b owes c", x.debt(0, 1), 7);
        due("c owes a", x.debt(1, 2), 4);
        due("none back", x.debt(1, 0), 0);
        due("to himself", x.debt(1, 1), 0);
        x.dawn();
        x.give(0, 1);
        x.give(1, 0);
        due("two DAYS together", x.debt(0, 1), 12);
        due("net", x.net(0, 1), 12);
        due("net", x.net(1, 0), 0);
        due("net", x.net(2, 0), 11);
        due("net to himself", x.net(2, 2), 0);
        GateNames y = Check.with("man a;man b;comes a 0 1 1;comes b 0 1 1;owes a b 0 9;owes b a 0 5;");
        y.give(0, 1);
        y.give(1, 0);
        due("debt", y.debt(0, 1), 5);
        due("debt", y.debt(1, 0), 9);
        due("net", y.net(0, 1), 0);
        due("net", y.net(1, 0), 4);
        due("debt(0, 2)", y.debt(0, 2), -1);
        due("debt(2, 0)", y.debt(2, 0), -1);
        due("net(0, 2)", y.net(0, 2), -1);
        due("net(-1, 0)", y.net(-1, 0), -1);
        for (int wild : WILD) {
            due("debt of none", y.debt(wild, 0), -1);
            due("debt to none", y.debt(0, wild), -1);
            due("net of none", y.net(wild, 0), -1);
            due("net to none", y.net(0, wild), -1);
        }
    }

    private static void promise20() {
        x = ring();
        due("no ring yet", x.rings(), 0);
        x.give(2, 0);
        // a: -7 + 11 = 4, b: 7 - 4 = 3, c: 4 - 11 = -7
        due("22 owed, 7 is enough", x.rings(), 15);
        x.back();
        due("no ring again", x.rings(), 0);
    }

    private static void promise21and22() {
        x = Check.with(TOWN);
        due("ahead of any", x.matchedAs(0), -1);
        due("all", x.matched(0, -1, 0), 17);
        due("all", x.matched(0, -1, 1), 1);
        as(1, 0, 3);
        due("of purse 1", x.matched(0, 1, 0), 21);
        as(3, 0, -1);
        due("one alone", x.matched(1, -1, 0), 7);
        due("one alone", x.matched(1, 1, 1), 3);
        as(3, -1, -1);
        Check.dueThrow("no such part", () -> x.matched(0, -1, 2));
        Check.dueThrow("no such DAY", () -> x.matched(30, -1, 0));
        Check.dueThrow("no such DAY", () -> x.matched(-1, -1, 0));
        Check.dueThrow("no such purse", () -> x.matched(0, 4, 0));
        Check.dueThrow("no such purse", () -> x.matched(0, -2, 0));
        for (int wild : WILD) {
            Check.dueThrow("no such DAY", () -> x.matched(wild, -1, 0));
            Check.dueThrow("no such purse", () -> x.matched(0, wild, 0));
            Check.dueThrow("no such part", () -> x.matched(0, -1, wild));
            due("matchedAs of none", x.matchedAs(wild), -1);
        }
        as(3, -1, -1);
        Check.town(x, "man a;comes a 0 1 1;");
        as(3, -1, -1);
        Check.dueThrow("only his own", () -> x.matched(0, -1, 0));
        as(3, -1, -1);
        due("nobody", x.matched(0, 2, 0), 0);
        due("nobody", x.matched(0, 2, 1), 1);
        as(-1, -1, -1);
    }

    private static void as(int a, int b, int c) {
        due("matchedAs(0)", x.matchedAs(0), a);
        due("matchedAs(1)", x.matchedAs(1), b);
        due("matchedAs(2)", x.matchedAs(2), c);
        due("matchedAs(3)", x.matchedAs(3), -1);
        due("matchedAs(-1)", x.matchedAs(-1), -1);
        due("matchedAs(8)", x.matchedAs(8), -1);
    }

    private static void promise22ties() {
        x = Check.with("man a;man b;man c;comes c 0 1 1;comes b 0 2 2;comes a 0 3 3;");
        due("all alike", x.matched(0, -1, 0), 0);
        as(1, 2, 0);
        x = Check.with("man a;man b;comes b 0 1 1;comes a 0 2 2;name x;name y;brings b 0 5;brings x 0 5;"
                + "brings y 0 5;");
        due("two of three alike", x.matched(0, -1, 0), 10);
        as(1, 2, -1);
        x = Check.with("name x;name y;man a;man b;comes b 0 1 1;comes a 0 2 2;brings a 0 9;brings b 0 9;");
        due("each the other's", x.matched(0, -1, 0), 18);
        as(3, 2, -1);
        x = Check.with("name x;name y;man a;comes a 0 1 1;brings x 0 -1;brings y 0 -1;brings a 0 50;");
        due("one below nothing", x.matched(0, -1, 0), -1);
        as(0, -1, -1);
    }

    private static void promise23() {
        x = Check.with(TOWN);
        due("want(0, 0, 0)", x.want(0, 0, 0), 22);
        due("want(3, 0, 0)", x.want(3, 0, 0), 11);
        due("want(2, 0, 0)", x.want(2, 0, 0), 0);
        due("want(3, 1, 0)", x.want(3, 1, 0), 7);
        due("want(3, 1, 1)", x.want(3, 1, 1), 3);
        due("want(3, 2, 1)", x.want(3, 2, 1), 1);
        due("ahead of any matched()", x.matchedAs(0), -1);
        Check.dueThrow("want(4, 0, 0)", () -> x.want(4, 0, 0));
        Check.dueThrow("want(-1, 0, 0)", () -> x.want(-1, 0, 0));
        for (int wild : WILD) {
            Check.dueThrow("want of none", () -> x.want(wild, 0, 0));
            Check.dueThrow("want on no DAY", () -> x.want(0, wild, 0));
            Check.dueThrow("want of no such", () -> x.want(0, 0, wild));
        }
        x = Check.with("man a;man b;comes a 0 1 1;comes b 0 1 1;comes b 1 1 1;");
        Check.dueThrow("two MEN, one NAME", () -> x.want(0, 0, 0));
        Check.dueThrow("his own alone", () -> x.want(0, 1, 0));
        due("another's is left", x.want(1, 1, 0), 0);
        due("nobody comes", x.want(1, 2, 0), 0);
    }

    private static void promise24and25() {
        x = Check.with(TOWN);
        due("ahead of any", x.serialAs(0), -1);
        due("serial(0, 0)", x.serial(0, 0), 17);
        due("serialAs(1)", x.serialAs(1), 0);
        due("serialAs(0)", x.serialAs(0), 3);
        due("serialAs(2)", x.serialAs(2), 1);
        due("serialAs(3)", x.serialAs(3), -1);
        due("serialAs(-1)", x.serialAs(-1), -1);
        due("serialAs(8)", x.serialAs(8), -1);
        for (int wild : WILD) {
            Check.dueThrow("serial on no DAY", () -> x.serial(wild, 0));
            Check.dueThrow("serial of no such", () -> x.serial(0, wild));
            due("serialAs of none", x.serialAs(wild), -1);
        }
        due("as before", x.serialAs(1), 0);
        due("serial(1, 0)", x.serial(1, 0), 7);
        due("serial(1, 1)", x.serial(1, 1), 3);
        due("serialAs(0)", x.serialAs(0), 3);
        due("serialAs(1)", x.serialAs(1), -1);
        Check.town(x, "man a;man b;comes a 0 1 1;comes b 0 2 2;man c;comes c 0 3 3;comes a 1 0 0;");
        // a takes b, b takes a: only his own is left for c, though c might have one in a LOT
        Check.dueThrow("c has none", () -> x.serial(0, 0));
        due("as before", x.serialAs(0), 3);
        due("of like ones the lesser", x.serial(1, 0), 0);
        due("serialAs(0)", x.serialAs(0), 1);
    }

    private static void promise26() {
        x = Check.with(TOWN);
        due("gave none", x.envies(0), -1);
        x.give(1, 2);
        x.give(0, 1);
        due("a has -4, b -6", x.envies(0), 0);
        due("b's own is no envy", x.envies(1), 0);
        x.give(2, 0);
        due("c has a's own", x.envies(0), 0);
        due("b envies c", x.envies(1), 4);
        due("c", x.envies(2), 0);
        x.back();
        x.give(2, 3);
        due("a envies c", x.envies(0), 4);
        due("b envies c", x.envies(1), 4);
        due("envies(3)", x.envies(3), -1);
        due("envies(-1)", x.envies(-1), -1);
        for (int wild : WILD) {
            due("envies of none", x.envies(wild), -1);
        }
        x.dawn();
        due("gave none on DAY now", x.envies(0), -1);
    }

    private static void promise27() {
        x = Check.with(TOWN);
        int[][] want = {{0, 0}, {2, 0}, {3, 2}, {4, 2}, {5, 7}, {9, 7}, {10, 5}, {20, 5}, {21, 4},
            {30, 4}, {31, 0}, {99, 0}, {100, -1}, {-1, -1}};
        for (int[] row : want) {
            due("inTown(0, " + row[0] + ")", x.inTown(0, row[0]), row[1]);
        }
        due("inTown(1, 0)", x.inTown(1, 0), 1);
        due("inTown(29, 0)", x.inTown(29, 0), 0);
        due("inTown(-1, 0)", x.inTown(-1, 0), -1);
        for (int wild : WILD) {
            due("inTown on no DAY", x.inTown(wild, 0), -1);
        }
        due("inTown in no minute", x.inTown(0, Integer.MIN_VALUE), -1);
    }

    private static void promise28() {
        x = Check.with(TOWN);
        due("crowd(0, 0)", x.crowd(0, 0), 3);
        due("crowd(0, 1)", x.crowd(0, 1), 5);
        due("crowd(1, 1)", x.crowd(1, 1), 0);
        due("crowd(2, 0)", x.crowd(2, 0), 0);
        due("crowd(2, 1)", x.crowd(2, 1), 0);
        due("crowd(0, 2)", x.crowd(0, 2), -1);
        due("crowd(0, -1)", x.crowd(0, -1), -1);
        due("crowd(-1, 0)", x.crowd(-1, 0), -1);
        for (int wild : WILD) {
            due("crowd on no DAY", x.crowd(wild, 0), -1);
            due("crowd of no such", x.crowd(0, wild), -1);
        }
        x = Check.with("man a;man b;man c;comes a 0 50 60;comes b 0 60 70;comes c 0 71 99;");
        due("both ends with them", x.crowd(0, 0), 2);
        due("both ends with them", x.crowd(0, 1), 60);
        x = Check.with("man a;man b;man c;comes a 0 99 99;comes b 0 7 7;comes c 0 50 50;");
        due("one at once", x.crowd(0, 0), 1);
        due("the first minute", x.crowd(0, 1), 7);
    }

    private static void promise29() {
        x = Check.with(TOWN);
        rests(1, 0, 0, 0, 0);
        x.give(1, 0);
        rests(1, 16, 0, 0, 5);
        rests(1, 11, 0, 0, 0);
        rests(0, 12, 0, 0, 0);
        rests(0, 17, 0, 0, 9);
        x.give(0, 3);
        rests(1, 11, 0, 0, 0);
        rests(1, 0, 0, 0, 0);
        rests(1, 11, 200, 200, 0);
        rests(0, 11, 0, 0, 6);
        rests(1, 0, 0, 0, 0, 0);
        rests(-1, 0, 0, 0);
        due("no prices", x.rests(), -1);
        x.dawn();
        rests(1, 0, 0, 0, 0);
        x.give(0, 3);
        rests(1, 0, 0, 0, 2);
        rests(0, 0, 0, 0, 3);
        rests(0, 255, 255, 255, 255);
        x = Check.with("man a;name x;comes a 0 1 1;");
        x.give(0, 1);
        rests(1, 0, 0);
        rests(0, 0, 128);
        rests(0, 0, 255);
    }

    /** Prices by NAME; five of them where there are four NAMES are not as told. */
    private static void rests(int want, int... prices) {
        Check.feed(x, prices);
        due("rests()", x.rests(), prices.length == x.count(1) ? want : -1);
        due("tape behind rests()", x.count(9), 0);
    }

    private static void promise30() {
        x = Check.with(TOWN);
        due("lots(0)", x.lots(0), 11);
        due("lots(1)", x.lots(1), 3);
        due("lots(29)", x.lots(29), 1);
        due("lots(-1)", x.lots(-1), -1);
        for (int wild : WILD) {
            due("lots on no DAY", x.lots(wild), -1);
        }
        x = eight("");
        due("14833 of eight", x.lots(0), 14833);
        x = eight("name i;name j;name k;name l;");
        due("of eight and twelve", x.lots(0), 10146321);
        x = Check.with("man a;comes a 0 1 1;");
        due("no way", x.lots(0), 0);
    }

    private static GateNames eight(String more) {
        StringBuilder text = new StringBuilder();
        for (char c = 'a'; c <= 'h'; c++) {
            text.append("man ").append(c).append(";comes ").append(c).append(" 0 1 1;");
        }
        return Check.with(text + more);
    }

    private static void promise31() {
        x = Check.with(TOWN);
        int[] want = {0, 4, 4, 3};
        for (int n = 0; n < 4; n++) {
            due("lotsOf(0, 0, " + n + ")", x.lotsOf(0, 0, n), want[n]);
        }
        due("lotsOf(1, 0, 1)", x.lotsOf(1, 0, 1), 1);
        due("he does not come", x.lotsOf(1, 1, 0), -1);
        due("lotsOf(0, 0, 4)", x.lotsOf(0, 0, 4), -1);
        due("lotsOf(0, 0, -1)", x.lotsOf(0, 0, -1), -1);
        due("lotsOf(0, 3, 0)", x.lotsOf(0, 3, 0), -1);
        due("lotsOf(0, -1, 0)", x.lotsOf(0, -1, 0), -1);
        for (int wild : WILD) {
            due("lotsOf on no DAY", x.lotsOf(wild, 0, 0), -1);
            due("lotsOf of none", x.lotsOf(0, wild, 0), -1);
            due("lotsOf of none", x.lotsOf(0, 0, wild), -1);
        }
        x = eight("");
        due("14833 by 7", x.lotsOf(0, 3, 4), 2119);
        x = Check.with("man a;comes a 0 1 1;");
        due("no way", x.lotsOf(0, 0, 0), 0);
    }

    private static void promise32() {
        x = Check.with(TOWN);
        // (4 * -4 + 4 * -6 + 3 * 5) / 11
        due("lotMean(0, 0, 0)", x.lotMean(0, 0, 0), -25);
        due("lotMean(0, 0, 1)", x.lotMean(0, 0, 1), 11);
        due("lotMean(1, 0, 0)", x.lotMean(1, 0, 0), 7);
        due("lotMean(1, 0, 1)", x.lotMean(1, 0, 1), 9);
        Check.dueThrow("he does not come", () -> x.lotMean(1, 1, 0));
        Check.dueThrow("lotMean(0, 3, 0)", () -> x.lotMean(0, 3, 0));
        Check.dueThrow("lotMean(0, -1, 0)", () -> x.lotMean(0, -1, 0));
        for (int wild : WILD) {
            Check.dueThrow("lotMean on no DAY", () -> x.lotMean(wild, 0, 0));
            Check.dueThrow("lotMean of none", () -> x.lotMean(0, wild, 0));
            Check.dueThrow("lotMean of no such", () -> x.lotMean(0, 0, wild));
        }
        x = Check.with("man a;comes a 0 1 1;");
        Check.dueThrow("no ways", () -> x.lotMean(0, 0, 0));
    }

    private static void promise33() {
        x = Check.with("man a;man b;man c;man d;foes c d;foes b a;foes d a;foes b c;comes a 0 10 20;"
                + "comes b 0 20 30;comes c 0 31 40;comes d 0 0 99;comes a 1 1 1;");
        int[] want = {3, 1, 3, 23, -1};
        for (int k = -1; k < 4; k++) {
            due("meets(0, " + k + ")", x.meets(0, k), want[k + 1]);
        }
        due("meets(1, -1)", x.meets(1, -1), 0);
        due("meets(1, 0)", x.meets(1, 0), -1);
        due("meets(-1, -1)", x.meets(-1, -1), -1);
        for (int wild : WILD) {
            due("meets on no DAY", x.meets(wild, -1), -1);
            due("meets of none", x.meets(0, wild), -1);
        }
    }

    private static void promise34() {
        x = Check.with("man a;man b;man c;man d;foes a b;foes a c;comes a 0 5 10;comes b 0 0 5;"
                + "comes c 0 11 40;comes d 0 0 99;comes a 1 50 60;comes b 1 40 99;comes c 1 61 62;"
                + "comes a 2 0 4;comes b 2 0 9;comes c 2 15 16;");
        due("past b, then past c", x.later(0, 0), 36);
        due("b past a", x.later(1, 0), 11);
        due("c meets nobody", x.later(2, 0), 0);
        due("d has no foes", x.later(3, 0), 0);
        due("out of the day", x.later(0, 1), 50);
        due("just between", x.later(0, 2), 10);
        due("he does not come", x.later(3, 1), -1);
        due("later(4, 0)", x.later(4, 0), -1);
        due("later(-1, 0)", x.later(-1, 0), -1);
        for (int wild : WILD) {
            due("later of none", x.later(wild, 0), -1);
            due("later on no DAY", x.later(0, wild), -1);
        }
    }

    /** Four MEN; on DAY 0 each gave the NAME of the next one. */
    private static GateNames circle() {
        GateNames y = Check.with("man a;man b;man c;man d;name x;comes a 0 1 1;comes b 0 1 1;"
                + "comes c 0 1 1;comes d 0 1 1;");
        for (int m = 0; m < 4; m++) {
            due("give", y.give(m, (m + 1) % 4), 0);
        }
        return y;
    }

    private static void promise35() {
        x = circle();
        due("two LINES", Check.sights(x, "a is b c;x not a;"), 2);
        due("LINES", x.count(8), 2);
        due("tape", x.count(9), 0);
        due("could", x.could(0), 6);
        due("a FAULT", Check.sights(x, "a is b;x not x;"), -14);
        due("they stay", x.count(8), 2);
        due("they stay", x.could(0), 6);
        due("new ones", Check.sights(x, "a not b;"), 1);
        due("the old ones are gone", x.could(0), 12);
        due("none", x.sights(), 0);
        due("none", x.could(0), 14);
    }

    private static void promise36to39() {
        x = circle();
        due("nine of four", x.holds(), 9);
        due("could", x.could(0), 14);
        due("look", x.look(0), 3);
        due("best", x.best(), 0);
        due("x was not given", x.could(4), -1);
        due("x was not given", x.look(4), -1);
        Check.sights(x, "a is b;");
        due("three left", x.holds(), 3);
        due("could", x.could(0), 2);
        due("could", x.could(1), 13);
        due("look", x.look(0), 3);
        due("look", x.look(1), 1);
        due("look", x.look(2), 2);
        due("best", x.best(), 1);
        x.sights();
        due("look first", x.look(1), 3);
        Check.sights(x, "b is c;");
        due("best first", x.best(), 2);
        Check.sights(x, "x is a;");
        due("of a NAME not given", x.holds(), 9);
        Check.sights(x, "a is a;");
        due("none", x.holds(), 0);
        due("could", x.could(0), 0);
        due("look", x.look(0), 0);
        due("best", x.best(), -1);
        Check.sights(x, "a is b c;a not c d;b not a a;");
        due("more LINES of one NAME", x.could(0), 2);
        due("more LINES of one NAME", x.could(1), 12);
        for (int wild : WILD) {
            due("could of none", x.could(wild), -1);
            due("look of none", x.look(wild), -1);
        }
        due("could(5)", x.could(5), -1);
        due("look(-1)", x.look(-1), -1);
        due("could(-1)", x.could(-1), -1);
    }

    private static void promise39none() {
        x = circle();
        x.dawn();
        due("none given", x.best(), -1);
        due("one way", x.holds(), 1);
        due("could", x.could(0), -1);
        due("look", x.look(0), -1);
        x.back();
        due("as before", x.holds(), 9);
    }

    private static void promise40() {
        x = circle();
        // He has b, c or d: if who has b and who has c is not he, it is d.
        due("two NAMES", x.questions(0), 6);
        due("the least two", x.questions(3), 3);
        Check.sights(x, "a is b;");
        due("he is seen", x.questions(1), 0);
        due("one tells all", x.questions(0), 2);
        Check.sights(x, "a is a;");
        due("no HOLDS", x.questions(0), -1);
        x.sights();
        x.back();
        due("he gave none", x.questions(3), -1);
        due("questions(4)", x.questions(4), -1);
        due("questions(-1)", x.questions(-1), -1);
        for (int wild : WILD) {
            due("questions of none", x.questions(wild), -1);
        }
    }

    private static void promise41() {
        x = Check.with(TOWN);
        int seed = 12345;
        int first = seed * 1103515245 + 12345;
        int second = first * 1103515245 + 12345;
        int third = second * 1103515245 + 12345;
        int[] forB = {0, 2, 3};
        int b = forB[(first >>> 8) % 3];
        due("all three, or until one has none", x.drawn(seed), 3);
        due("b is the first", x.gave(1, 0), b);
        int[] forA = b == 2 ? new int[] {1, 3} : b == 3 ? new int[] {1, 2} : new int[] {1, 2, 3};
        int a = forA[(second >>> 8) % forA.length];
        due("a is the second", x.gave(0, 0), a);
        int[] forC = new int[3];
        int count = 0;
        for (int n = 0; n < 4; n++) {
            if (n != 2 && n != a && n != b) {
                forC[count++] = n;
            }
        }
        due("c is the third", x.gave(2, 0), forC[(third >>> 8) % count]);
        due("none left", x.drawn(seed), 0);
        x.back();
        due("one more", x.drawn(seed), 1);
        x.dawn();
        due("a alone", x.drawn(-1), 1);
        x = Check.with("man a;man b;man c;comes a 0 0 0;comes b 0 1 1;comes c 0 2 2;");
        x.give(0, 1);
        x.give(1, 0);
        due("only his own is left", x.drawn(7), 0);
        due("two given", x.count(7), 2);
        due("new", new GateNames().drawn(Integer.MIN_VALUE), 0);
    }

    private static void promise42and43() {
        x = Check.with(TOWN);
        Check.due("nothing kept", x.restore(0), false);
        Check.due("nothing kept", x.restore(1), false);
        x.give(1, 0);
        x.give(0, 1);
        x.matched(0, -1, 0);
        Check.sights(x, "a is b c;");
        Check.due("image(1)", x.image(1), true);
        Check.due("image(2)", x.image(2), false);
        Check.due("image(-1)", x.image(-1), false);
        Check.due("nothing kept at 0", x.restore(0), false);
        Check.due("restore(2)", x.restore(2), false);
        x.give(2, 3);
        x.dawn();
        x.give(0, 2);
        Check.due("image(0)", x.image(0), true);
        due("a new TOWN", Check.town(x, "man z purse 2;name y;name w;comes z 0 0 0;"), 4);
        x.matched(0, -1, 0);
        due("matchedAs", x.matchedAs(0), 1);
        Check.town(x, "man");
        Check.feed(x, "abc");
        Check.due("restore(1)", x.restore(1), true);
        due("MEN", x.count(0), 3);
        due("'comes'", x.count(2), 4);
        due("'brings'", x.count(3), 4);
        due("'owes'", x.count(4), 1);
        due("foes", x.count(5), 1);
        due("DAY", x.count(6), 0);
        due("given", x.count(7), 2);
        due("SIGHTS", x.count(8), 1);
        due("the tape stays", x.count(9), 3);
        due("the FAULT stays", x.fault(), 1);
        due("what matched() told stays", x.matchedAs(0), 1);
        due("what matched() told stays", x.matchedAs(1), -1);
        due("mean", x.mean(0, 0, 0), 16);
        due("man", x.man(0, 2), 2);
        due("gave", x.gave(2, 0), -1);
        x.give(2, 3);
        Check.due("restore(1) again", x.restore(1), true);
        due("the image is as it was", x.gave(2, 0), -1);
        Check.due("restore(0)", x.restore(0), true);
        due("DAY", x.count(6), 1);
        due("gave", x.gave(0, 1), 2);
        due("gave", x.gave(2, 0), 3);
        Check.due("image(0)", new GateNames().image(0), true);
        for (int wild : WILD) {
            Check.due("image of none", x.image(wild), false);
            Check.due("restore of none", x.restore(wild), false);
        }
    }

    private static void promise44() {
        x = Check.with(TOWN);
        Check.sights(x, "a is b;");
        x.give(1, 0);
        Check.feed(x, "12345");
        int[] want = {-1, 3, 4, 4, 4, 1, 1, 0, 1, 1, 5, -1};
        for (int what = -1; what <= 10; what++) {
            due("count(" + what + ")", x.count(what), want[what + 1]);
        }
        x.dawn();
        due("count(6)", x.count(6), 1);
        due("count(7)", x.count(7), 0);
        for (int wild : WILD) {
            due("count of none", x.count(wild), -1);
        }
    }
}
