/** FAULTS of TOWN and SIGHTS: where they are and of which kind, and the edges of the texts. */
public final class FaultsTest {

    private static final String[] WORDS = {
        "man", "purse", "name", "comes", "brings", "owes", "foes", "is", "not"};

    public static void main(String[] args) {
        goodTowns();
        tokens();
        grammar();
        numbers();
        names();
        tooMany();
        townLength();
        faultyTownStays();
        goodSights();
        badSights();
        sightsLength();
        Check.end("FaultsTest");
    }

    private static void goodTowns() {
        Told.good("", 0);
        Told.good(" \n  ", 0);
        Told.good("man a;", 1);
        Told.good("\nman\na\npurse\n3\n;\n", 1);
        Told.good("man a purse 00;", 1);
        Told.good("man abcdef;name b;comes abcdef 29 99 99;brings b 0-99/0 1;owes b abcdef 0 1;", 5);
        Told.good("man a;name b;comes a 0 0 0;brings a 29 0;brings a 29 - 0;brings a 29 5/12 12;", 6);
        Told.good("man a;man b;foes b a;owes a b 3 99;owes a b 3 99;owes b a 3 1;", 6);
        Told.good("man mans;name iss;name purses;name nots;", 4);
        Told.good("man a;comes a 0 1 1;comes a 1 1 1;man b;comes b 0 1 1;", 5);
    }

    private static void tokens() {
        Told.marked("!A", 1);
        Told.marked("!\t", 1);
        Told.marked("!\0", 1);
        Told.marked("!\r", 1);
        Told.marked("!.", 1);
        Told.marked("man !abcdefg;", 1);
        Told.marked("man !a1;", 1);
        Told.marked("man !1a;", 1);
        Told.marked("man a purse !000;", 1);
        Told.marked("man a purse !1x;", 1);
        Told.marked("man a!,", 1);
        Told.marked("man a!" + (char) 233 + ";", 1);
        Told.marked("man a!" + (char) 255 + ";", 1);
        Told.marked("!mana;", 1);
        Told.marked("!man1;", 1);
    }

    private static void grammar() {
        Told.marked("!;", 1);
        Told.marked("!a;", 1);
        Told.marked("!5;", 1);
        Told.marked("!is;", 1);
        Told.marked("!purse 1;", 1);
        Told.marked("man a;!;", 1);
        Told.marked("man!", 1);
        Told.marked("man !;", 1);
        Told.marked("man a !", 1);
        Told.marked("man a!", 1);
        Told.marked("man a\n\n !", 1);
        Told.marked("man a purse!", 1);
        Told.marked("man a purse !;", 1);
        Told.marked("man a purse !b;", 1);
        Told.marked("man a purse 1 !2;", 1);
        Told.marked("man a !1;", 1);
        Told.marked("man a !man;", 1);
        Told.marked("name a !purse 1;", 1);
        Told.marked("man a;comes !0 0 1 1;", 1);
        Told.marked("man a;comes a !a 1 1;", 1);
        Told.marked("man a;comes a 0 1!;", 1);
        Told.marked("man a;comes a 0 1 1 !1;", 1);
        Told.marked("man a;comes a !- 1 1 1;", 1);
        Told.marked("man a;brings a 0 !;", 1);
        Told.marked("man a;brings a 0 - !;", 1);
        Told.marked("man a;brings a 0 - !- 1;", 1);
        Told.marked("man a;brings a 0 !/ 1 1;", 1);
        Told.marked("man a;brings a 0 1 /!;", 1);
        Told.marked("man a;brings a 0 1 / 1 !;", 1);
        Told.marked("man a;brings a 0 1 / 1 !/ 1;", 1);
        Told.marked("man a;brings a 0 1 !1 2;", 1);
        Told.marked("man a;brings a 0 1 / !- 1 2;", 1);
        Told.marked("man a;brings a 0 1 / 1 2 !3;", 1);
        Told.marked("man a;man b;owes a b 0 !- 1;", 1);
        Told.marked("man a;man b;owes a b 0!;", 1);
        Told.marked("man a;man b;owes a b 0 1!", 1);
        Told.marked("man a;man b;foes a b!", 1);
        Told.marked("man a;man b;man c;foes a b !c;", 1);
        for (String word : WORDS) {
            Told.marked("man !" + word + ";", 1);
            Told.marked("name !" + word + ";", 1);
            Told.marked("man a;comes !" + word + " 0 1 1;", 1);
            Told.marked("man a;brings !" + word + " 0 1;", 1);
            Told.marked("man a;owes a !" + word + " 0 1;", 1);
            Told.marked("man a;foes a !" + word + ";", 1);
        }
    }

    private static void numbers() {
        Told.marked("man a purse !4;", 2);
        Told.marked("man a purse !99", 2);
        Told.marked("man a;comes a !30 1 1;", 2);
        Told.marked("man a;comes a 29 99 !98;", 2);
        Told.marked("man a;comes a 29 1 !0;", 2);
        Told.marked("man a;brings a !30 1;", 2);
        Told.marked("man a;brings a 0 1 / !13 12;", 2);
        Told.marked("man a;brings a 0 1 / 0 !0;", 2);
        Told.marked("man a;brings a 0 1 / 1 !13;", 2);
        Told.marked("man a;brings a 0 1 / 12 !11;", 2);
        Told.marked("man a;man b;owes a b !30 1;", 2);
        Told.marked("man a;man b;owes a b 0 !0;", 2);
        Told.marked("man a;man b;owes a b 0 !00", 2);
    }

    private static void names() {
        Told.marked("man a;man !a;", 3);
        Told.marked("man a;name !a;", 3);
        Told.marked("name a;man !a purse 9;", 3);
        Told.marked("name a;name !a;", 3);
        Told.marked("comes !a 0 1 1;", 3);
        Told.marked("name a;comes !a 0 1 1;", 3);
        Told.marked("brings !a 0 1;", 3);
        Told.marked("man a;owes !b a 0 1;", 3);
        Told.marked("man a;owes a !b 0 1;", 3);
        Told.marked("man a;owes a !a 0 1;", 3);
        Told.marked("man a;foes !b a;", 3);
        Told.marked("man a;foes a !a;", 3);
        Told.marked("man a;name b;foes a !b;", 3);
        Told.marked("man a;name b;foes !b a;", 3);
        Told.marked("man a;man b;foes a b;foes a !b;", 3);
        Told.marked("man a;man b;foes a b;foes b !a;", 3);
        Told.marked("man a;comes a 5 1 1;comes a 6 1 1;comes a !5 1 1;", 3);
        Told.marked("man a;comes a 5 1 1;comes a !05 1 1;", 3);
    }

    private static String repeat(String line, int times) {
        return line.repeat(times);
    }

    private static void tooMany() {
        String eight = "man a;man b;man c;man d;man e;man f;man g;man h;";
        Told.good(eight, 8);
        Told.marked(eight + "!man i;", 4);
        Told.marked(eight + "!man", 4);
        Told.marked(eight + "!man a purse 9;", 4);
        String twelve = eight + "name i;name j;name k;name l;";
        Told.good(twelve, 12);
        Told.marked(twelve + "!name m;", 4);
        Told.marked(twelve + " !man m;", 4);
        Told.marked("name i;name j;name k;name l;name m;man a;man b;man c;man d;man e;man f;man g;!man h;", 4);
        String days = "";
        for (int day = 0; day < 30; day++) {
            days += "comes a " + day + " 0 0;";
        }
        for (int day = 0; day < 10; day++) {
            days += "comes b " + day + " 0 0;";
        }
        Told.good("man a;man b;" + days, 42);
        Told.marked("man a;man b;" + days + "!comes a 0 0 0;", 4);
        Told.good("name a;" + repeat("brings a 0 1;", 40), 41);
        Told.marked("name a;" + repeat("brings a 0 1;", 40) + "!brings x", 4);
        Told.good("name a;name b;" + repeat("owes a b 0 1;", 40), 42);
        Told.marked("name a;name b;" + repeat("owes a b 0 1;", 40) + "\n!owes b a 0 1;", 4);
    }

    private static void townLength() {
        String line = "name a;";
        Told.good(line + " ".repeat(893), 1);
        Told.bad(line + " ".repeat(894), 900, 1);
        Told.bad(line + " ".repeat(933), 900, 1);
        Told.bad(" ".repeat(940), 900, 1);
        Told.good(" ".repeat(900), 0);
        Told.good(" ".repeat(893) + line, 1);
        Told.bad(" ".repeat(894) + line, 900, 1);
        Told.bad(" ".repeat(895) + "name", 899, 1);
        Told.bad(" ".repeat(896) + "name", 900, 1);
        Told.bad(" ".repeat(897) + "name", 900, 1);
        Told.bad(" ".repeat(897) + "!", 897, 1);
        Told.bad(" ".repeat(899) + "!!", 899, 1);
        Told.bad(" ".repeat(900) + "!!", 900, 1);
        Told.bad(" ".repeat(897) + "nameless", 897, 1);
        Told.bad(" ".repeat(899) + "name a;", 900, 1);
        Told.bad(line + " ".repeat(887) + "name a;", 899, 3);
        Told.bad(line + " ".repeat(888) + "name a;", 900, 1);
        Told.bad("man a purse" + " ".repeat(888) + "14;", 899, 2);
        Told.bad("man a purse" + " ".repeat(888) + "114;", 899, 1);
        Told.bad("man a purse" + " ".repeat(888) + "01;", 900, 1);
    }

    private static void faultyTownStays() {
        GateNames x = Check.with("man a;man b;comes a 0 1 1;comes b 0 1 1;");
        Check.due("give", x.give(0, 1), 0);
        Check.due("sights", Check.sights(x, "b is a;"), 1);
        Check.due("town", Check.town(x, "man c;man d;man e;!"), -1 - 18);
        Check.due("MEN stay", x.count(0), 2);
        Check.due("NAMES given stay", x.count(7), 1);
        Check.due("SIGHTS stay", x.count(8), 1);
        Check.due("sights", Check.sights(x, "a is a;c is a;"), -1 - 7);
        Check.due("SIGHTS stay", x.could(1), 1);
        Check.due("fault", x.fault(), 3);
        Check.due("new SIGHTS", Check.sights(x, ""), 0);
        Check.due("fault", x.fault(), 0);
        Check.due("no SIGHTS", x.count(8), 0);
        Check.due("sights", Check.sights(x, "b is a;"), 1);
        Check.due("dawn", x.dawn(), 1);
        Check.due("town", Check.town(x, "man c;comes c 0 1 1;name d;"), 3);
        Check.due("DAY", x.count(6), 0);
        Check.due("given", x.count(7), 0);
        Check.due("SIGHTS", x.count(8), 0);
    }

    private static void goodSights() {
        Told.goodSights("", 0);
        Told.goodSights("\n", 0);
        Told.goodSights("c is a;", 1);
        Told.goodSights(" a not a b d\n;c is d d d;", 2);
        Told.goodSights(repeat("a is b;", 16), 16);
    }

    private static void badSights() {
        Told.markedSights("!;", 1);
        Told.markedSights("!1 is a;", 1);
        Told.markedSights("!is is a;", 1);
        Told.markedSights("!man is a;", 1);
        Told.markedSights("!x is a;", 3);
        Told.markedSights("a !a;", 1);
        Told.markedSights("a!;", 1);
        Told.markedSights("a!", 1);
        Told.markedSights("a !man a;", 1);
        Told.markedSights("a is!;", 1);
        Told.markedSights("a is!", 1);
        Told.markedSights("a is !is a;", 1);
        Told.markedSights("a is a !not;", 1);
        Told.markedSights("a is a !1;", 1);
        Told.markedSights("a is !c;", 3);
        Told.markedSights("a is b !c;", 3);
        Told.markedSights("a is b !x;", 3);
        Told.markedSights("a is b !", 1);
        Told.markedSights("a is b !- d;", 1);
        Told.markedSights("a is b;!-", 1);
        Told.markedSights("a is b;a is !purse;", 1);
        Told.markedSights(repeat("a is b;", 16) + "!a is b;", 4);
        Told.markedSights(repeat("a is b;", 16) + "!a", 4);
        Told.markedSights(repeat("a is b;", 16) + " !c gate", 4);
        Told.markedSights(repeat("a is b;", 16) + "!x is b;", 3);
        Told.markedSights(repeat("a is b;", 16) + "!not is b;", 1);
        Told.markedSights(repeat("a is b;", 16) + "!;", 1);
    }

    private static void sightsLength() {
        String line = "a is b;";
        Told.goodSights(line + " ".repeat(293), 1);
        Told.badSights(line + " ".repeat(294), 300, 1);
        Told.goodSights(" ".repeat(293) + line, 1);
        Told.badSights(" ".repeat(294) + line, 300, 1);
        Told.badSights("a is" + " ".repeat(295) + "xy;", 299, 3);
        Told.badSights("a is" + " ".repeat(296) + "xy;", 300, 1);
        Told.badSights("a is" + " ".repeat(295) + "man;", 299, 1);
        Told.badSights("a is" + " ".repeat(286) + "b b b b b b", 300, 1);
        Told.goodSights("a is" + " b".repeat(147) + ";\n", 1);
        Told.badSights("a is" + " b".repeat(148) + ";", 300, 1);
    }
}
