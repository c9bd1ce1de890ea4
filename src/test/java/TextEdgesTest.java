/** Sentences about the tape, TOKENS, TOWN, FAULTS and SIGHTS that name an edge: a test for each. */
public final class TextEdgesTest {

    private static final String EIGHT = "man a;man b;man c;man d;man e;man f;man g;man h;";
    private static final String[] OWN = {
        "man", "purse", "name", "comes", "brings", "owes", "foes", "is", "not"};
    /** Each takes a NUMBER, told as '#', with what may stand there. */
    private static final int DAY_MOST = 29;

    public static void main(String[] args) {
        tape();
        tokens();
        lines();
        numbers();
        names();
        limits();
        faults();
        sights();
        Check.end("TextEdgesTest");
    }

    private static void due(String what, long got, long want) {
        Check.due(what, got, want);
    }

    private static void tape() {
        newTapeIsEmpty();
        feedHighestFirst();
        feedComesBehind();
        feedBeyond940();
        endFirstBytesAlone();
        endHasNotSoMany();
        endBelowZero();
        endWithinAToken();
        tokensUpToTheTapesEnd();
        tapeIsEmptyThen();
    }

    private static void tokens() {
        wordsOfOneToSix();
        smallLettersAlone();
        numbersOfOneOrTwo();
        blanksBetweenOrNot();
        blanksAreTwo();
        runsGoOn();
        whatIsNoToken();
        pointNeverComes();
    }

    private static void lines() {
        emptyTown();
        eachLineIsClosed();
        purseMayBeLeftOut();
        minusMayBeLeftOut();
        oddsMayBeLeftOut();
        onlySixSorts();
    }

    private static void numbers() {
        purseZeroToThree();
        dayZeroTo29();
        minutesZeroTo99();
        outNoLessThanIn();
        amountsZeroTo99();
        oddsZeroTo12();
        oddsOfOneTo12();
        oddsOfNoLess();
        oneTo99Owed();
    }

    private static void names() {
        noneOfThoseToldHere();
        longestNames();
        toldOnce();
        toldAhead();
        ofNoMan();
        oneManAndDayOnce();
        owesUnlikeOnes();
        foesUnlikeOnes();
        eachTwoOnce();
    }

    private static void limits() {
        eightMen();
        twelveNames();
        fortyComes();
        fortyBrings();
        fortyOwes();
        allFoes();
        eachSortHasItsOwnLimit();
        numberedEachSort();
    }

    private static void faults() {
        noFault();
        latestFault();
        firstAlongTheText();
        ofOneTokenTheLeast();
        atTheEnd();
        at900();
        at900IfNoneIsAhead();
        tokensAheadOf900AreWhole();
        faultyTownStays();
        newTownIsAllNew();
        newTownBehindMany();
    }

    private static void sights() {
        sightsOf300();
        tokensAheadOf300AreWhole();
        sixteenLines();
        aSeventeenthLine();
        sightsOfManyMen();
        sightsNames();
        sightsGrammar();
        faultySightsStay();
        newSights();
    }

    // ---- promises 1 to 3: the tape

    private static void newTapeIsEmpty() {
        GateNames x = new GateNames();
        due("1: an empty tape", x.count(9), 0);
        due("1: an empty tape is an empty TOWN", x.town(), 0);
        x = new GateNames();
        due("1: an empty tape is empty SIGHTS", x.sights(), 0);
        due("1: an empty TOWN: no prices are enough", x.rests(), 1);
    }

    private static void feedHighestFirst() {
        GateNames x = new GateNames();
        // "man a;name b;name c;", and no byte may stand elsewhere
        due("2: feed", x.feed(0x6d616e20, 0x613b6e61, 0x6d652062, 0x3b6e616d, 0x6520633b), 20);
        due("2: the highest first", x.town(), 3);
        // a byte of 128 or more in each place of a number
        for (int at = 0; at < 4; at++) {
            int bits = 0x20202020 | 0x80 << 24 - 8 * at;
            x.feed(bits, 0x20202020, 0x20202020, 0x20202020, 0x20202020);
            due("2: byte " + at + " of the first", x.town(), -1 - at);
            x.feed(0x20202020, 0x20202020, 0x20202020, 0x20202020, bits);
            due("2: byte " + at + " of the last", x.town(), -1 - 16 - at);
        }
        x.feed(-1, -1, -1, -1, -1);
        due("2: all bits", x.count(9), 20);
        due("2: all bits are no TOKEN", x.town(), -1);
    }

    private static void feedComesBehind() {
        GateNames x = new GateNames();
        due("2: feed", x.feed(0x6e616d65, 0x20616263, 0x21212121, 0x21212121, 0x21212121), 20);
        Check.due("3: end", x.end(8), true);
        due("2: behind the tape", x.feed(0x6465663b, 0x20202020, 0x20202020, 0x20202020, 0x2020200a), 28);
        due("2: one WORD of both", x.town(), 1);
        Check.town(x, "name abcdef;man a;comes a 0 1 1;");
        due("2: once more", x.count(1), 2);
    }

    private static void feedBeyond940() {
        GateNames x = new GateNames();
        for (int k = 1; k <= 46; k++) {
            due("2: feed", x.feed(0x20202020, 0x20202020, 0x20202020, 0x20202020, 0x20202020), 20 * k);
        }
        due("2: 920 and 20 are no more than 940", x.feed(0, 0, 0, 0, 0), 940);
        due("2: 940 and 20", x.feed(0, 0, 0, 0, 0), -1);
        due("2: none come", x.count(9), 940);
        for (int has = 939; has > 920; has -= 3) {
            x.end(has);
            due("2: " + has + " and 20", x.feed(0, 0, 0, 0, 0), -1);
            due("2: none come", x.count(9), has);
        }
        x.end(921);
        due("2: 921 and 20", x.feed(0, 0, 0, 0, 0), -1);
        x.end(920);
        due("2: none came: they are blanks", x.feed(0x20202020, 0x20202020, 0x20202020, 0x20202020, 0x20202020), 940);
        x.end(900);
        due("2: all of them are as fed", x.town(), 0);
        due("2: an empty tape takes more", x.feed(0, 0, 0, 0, 0), 20);
    }

    private static void endFirstBytesAlone() {
        GateNames x = new GateNames();
        Check.feed(x, "name a;name b;");
        Check.due("3: all it has", x.end(14), true);
        due("3: all it has", x.count(9), 14);
        Check.due("3: fewer", x.end(7), true);
        due("3: fewer", x.count(9), 7);
        Check.due("3: those behind are gone", x.end(14), false);
        Check.due("3: those behind are gone", x.end(8), false);
        due("3: the first ones", x.town(), 1);
        Check.feed(x, "name a;name b;");
        Check.due("3: none", x.end(0), true);
        due("3: none", x.count(9), 0);
        Check.due("3: none of none", x.end(0), true);
    }

    private static void endHasNotSoMany() {
        GateNames x = new GateNames();
        Check.due("3: one of none", x.end(1), false);
        Check.feed(x, "name a;");
        Check.due("3: one too many", x.end(8), false);
        Check.due("3: far too many", x.end(940), false);
        Check.due("3: the most", x.end(Integer.MAX_VALUE), false);
        due("3: it stays", x.count(9), 7);
        due("3: it stays", x.town(), 1);
    }

    private static void endBelowZero() {
        GateNames x = new GateNames();
        Check.due("3: below 0 of none", x.end(-1), false);
        Check.feed(x, "name a;");
        Check.due("3: below 0", x.end(-1), false);
        Check.due("3: as many below 0", x.end(-7), false);
        Check.due("3: the least", x.end(Integer.MIN_VALUE), false);
        due("3: it stays", x.count(9), 7);
        due("3: it stays", x.town(), 1);
    }

    private static int cut(String text, int n) {
        GateNames x = new GateNames();
        Check.feed(x, text);
        Check.due("3: end", x.end(n), true);
        return 10 * x.town() - x.fault();
    }

    /** What was fed behind is no more read, though a TOKEN went on there. */
    private static void endWithinAToken() {
        due("3: within a NAME", cut("name abcdef;", 7), -81);
        due("3: within a WORD", cut("name", 3), -11);
        due("3: within a NUMBER", cut("man a purse 22;", 13), -141);
        due("3: behind a WORD", cut("name abcdefg;", 11), -121);
        due("3: ahead of ;", cut("name a;", 6), -71);
        due("3: ahead of a FAULT", cut("name a;!", 7), 10);
        due("3: within blanks", cut("name a;   !", 9), 10);
        GateNames x = new GateNames();
        Check.town(x, "man a;man b;comes a 0 1 1;");
        Check.feed(x, "man a;com");
        due("4: what an older text had there", x.town(), -1 - 6);
        Check.feed(x, "man a;comes");
        due("4: what an older text had there", x.town(), -1 - 11);
        Check.sights(x, "!");
        Check.town(x, "man a;man b;");
        Check.feed(x, "b is ab;");
        x.end(6);
        due("35: within a MAN", x.sights(), -1 - 6);
        due("5", x.fault(), 1);
    }

    private static void tokensUpToTheTapesEnd() {
        Told.bad("a".repeat(940), 0, 1);
        Told.bad("0".repeat(940), 0, 1);
        Told.bad("a".repeat(900), 0, 1);
        Told.bad("name a;" + " ".repeat(892) + "name".repeat(10), 899, 1);
        Told.bad("name a;" + " ".repeat(892) + "name" + " ".repeat(36) + "a", 900, 1);
        Told.bad("name a;" + " ".repeat(932) + "b", 900, 1);
        Told.bad(";".repeat(940), 0, 1);
        Told.badSights("a".repeat(940), 0, 1);
        Told.badSights(" ".repeat(299) + "b".repeat(641), 299, 1);
        Told.badSights(" ".repeat(939) + "b", 300, 1);
    }

    private static void tapeIsEmptyThen() {
        GateNames x = new GateNames();
        Check.town(x, "man a;comes a 0 1 1;");
        due("4: behind town()", x.count(9), 0);
        Check.town(x, "man a;!!!");
        due("4: behind town() with a FAULT", x.count(9), 0);
        Check.sights(x, "a is a;");
        due("35: behind sights()", x.count(9), 0);
        Check.sights(x, "a is a;!!!");
        due("35: behind sights() with a FAULT", x.count(9), 0);
        Check.feed(x, 5);
        due("29: rests()", x.rests(), 1);
        due("29: behind rests()", x.count(9), 0);
        Check.feed(x, 5, 5);
        due("29: not as told", x.rests(), -1);
        due("29: behind what is not as told", x.count(9), 0);
        due("4: then it is fed anew", x.feed(0, 0, 0, 0, 0), 20);
        due("5: none of these told a FAULT but the latest two", x.fault(), 1);
    }

    // ---- TOKENS

    private static void wordsOfOneToSix() {
        Told.good("name a;name bc;name def;name ghij;name klmno;name pqrstu;", 6);
        Told.marked("name !abcdefg;", 1);
        Told.marked("name !abcdefgh;", 1);
        Told.marked("!namenam a;", 1);
        // a seventh letter ahead of six, whatever it is
        for (char c = 'a'; c <= 'z'; c++) {
            Told.marked("name a;!" + c + "brings a 0 1;", 1);
            Told.marked("name abcdef;name !" + c + "abcdef;", 1);
            Told.marked("name abcdef;brings !" + c + "abcdef 0 1;", 1);
            Told.marked("name a;brings a 0 1;!" + c + c + "brings a 0 1;", 1);
        }
    }

    private static void smallLettersAlone() {
        Told.good("name az;name za;name aaaaaa;name zzzzzz;", 4);
        Told.marked("name !A;", 1);
        Told.marked("name !Z;", 1);
        Told.marked("!Name a;", 1);
        Told.marked("name a!A;", 1);
        Told.marked("name !`;", 1);
        Told.marked("name !{;", 1);
        Told.marked("name a!_b;", 1);
    }

    private static void numbersOfOneOrTwo() {
        Told.good("man a;comes a 0 9 99;comes a 01 00 00;comes a 09 09 9;", 4);
        Told.marked("man a;comes a !000 0 0;", 1);
        Told.marked("man a;comes a 0 !100 0;", 1);
        Told.marked("man a;comes a 0 0 !099;", 1);
        Told.marked("man a purse !0000000001;", 1);
        Told.marked("man a purse !:;", 1);
    }

    private static void blanksBetweenOrNot() {
        Told.good("name a;brings a 0-5/1 2;brings a 0 - 5 / 1 2 ;", 3);
        Told.good("name\na\n;\n\nbrings\na\n0\n-\n5\n/\n1\n2\n;\n", 2);
        Told.good("  name   a  ;   ", 1);
        Told.good(" ", 0);
        Told.good("\n", 0);
        Told.marked("!namea;", 1);
        Told.marked("name a;brings a 05!;", 1);
    }

    private static void blanksAreTwo() {
        int[] near = {0, 9, 11, 12, 13, 31, 33, 127, 128, 133, 160, 255};
        for (int sign : near) {
            Told.bad("name" + (char) sign + "a;", 4, 1);
            Told.bad((char) sign + "name a;", 0, 1);
            Told.bad("name a;" + (char) sign, 7, 1);
        }
    }

    private static void runsGoOn() {
        Told.marked("name !a0;", 1);
        Told.marked("name !0a;", 1);
        Told.marked("name a;brings a !0a 1;", 1);
        Told.marked("man a !purse0;", 1);
        Told.marked("man a purse !0b;", 1);
        Told.marked("name !abcde0;", 1);
        Told.marked("name !0b0;", 1);
        Told.marked("name !abcdef0123456789abcdefghijklmnopqrstuvwxyz;", 1);
        Told.marked("name a;brings a 0 !1x/1 2;", 1);
    }

    /** At the head of a LINE no byte but a blank is let by. */
    private static void whatIsNoToken() {
        for (int sign = 0; sign < 256; sign++) {
            if (sign == ' ' || sign == '\n') {
                Told.good((char) sign + "name a;", 1);
                Told.good("name a" + (char) sign + ";", 1);
                continue;
            }
            Told.bad((char) sign + " name a;", 0, 1);
            boolean letter = sign >= 'a' && sign <= 'z';
            boolean digit = sign >= '0' && sign <= '9';
            if (letter) {
                Told.good("name a" + (char) sign + ";", 1);
            } else if (sign == ';') {
                Told.bad("name a;;", 7, 1);
            } else {
                Told.bad("name a" + (char) sign + ";", digit ? 5 : 6, 1);
            }
        }
    }

    private static void pointNeverComes() {
        Told.marked("!.", 1);
        Told.marked("name a!.", 1);
        Told.marked("name a;brings a 0 1!.;", 1);
        Told.markedSights("a is b!.", 1);
    }

    // ---- LINES

    private static void emptyTown() {
        Told.good("", 0);
        GateNames x = Check.with(EIGHT);
        due("4: no LINES", x.town(), 0);
        due("4: it is the TOWN now", x.count(0), 0);
        due("4: it is the TOWN now", x.count(1), 0);
    }

    private static void eachLineIsClosed() {
        Told.marked("name a!", 1);
        Told.marked("man a!", 1);
        Told.marked("man a purse 1!", 1);
        Told.marked("man a;comes a 0 1 1!", 1);
        Told.marked("man a;brings a 0 1!", 1);
        Told.marked("man a;brings a 0 1/1 1!", 1);
        Told.marked("man a;man b;owes a b 0 1!", 1);
        Told.marked("man a;man b;foes a b!", 1);
        Told.marked("name a !name b;", 1);
        Told.marked("man a purse 1 !man b;", 1);
        Told.marked("man a;comes a 0 1 1 !comes a 1 1 1;", 1);
        Told.marked("man a;brings a 0 1 !brings a 0 1;", 1);
        Told.marked("man a;brings a 0 1/1 1 !brings a 0 1;", 1);
        Told.marked("man a;man b;owes a b 0 1 !owes a b 0 1;", 1);
        Told.marked("man a;man b;man c;foes a b !foes a c;", 1);
    }

    private static void purseMayBeLeftOut() {
        GateNames x = Check.with("man a;man b purse 0;name c;");
        due("6: no purse", x.man(0, 1), -1);
        due("6: purse 0", x.man(1, 1), 0);
        Told.marked("name a !purse 0;", 1);
        Told.marked("man a purse!;", 1);
        Told.marked("man a purse 1 !purse 1;", 1);
        Told.marked("man a purse !-1;", 1);
    }

    private static void minusMayBeLeftOut() {
        GateNames x = Check.with("name a;name b;name c;brings a 0 7;brings b 0-7;brings c 0-0;");
        due("10: without", x.mean(0, 0, 0), 7);
        due("10: with", x.mean(1, 0, 0), -7);
        due("10: less nothing", x.mean(2, 0, 0), 0);
        due("10: less nothing", x.mean(2, 0, 1), 1);
        Told.marked("name a;brings a 0-!-1;", 1);
        Told.marked("name a;brings a !-0 1;", 1);
        Told.marked("name a;name b;owes a b 0!-1;", 1);
        Told.marked("man a;comes a 0!-1 1;", 1);
        Told.marked("man a;comes a 0 1!-1;", 1);
        Told.marked("man a;brings a 0 1/!-1 1;", 1);
        Told.marked("man a;brings a 0 1/1!-1;", 1);
    }

    private static void oddsMayBeLeftOut() {
        GateNames x = Check.with("name a;name b;brings a 0 7;brings b 0 7/1 1;");
        due("10: 1 of 1 without", x.mean(0, 0, 0), 7);
        due("10: 1 of 1", x.mean(1, 0, 0), 7);
        Told.marked("name a;brings a 0 7 !1 1;", 1);
        Told.marked("name a;brings a 0 7/!;", 1);
        Told.marked("name a;brings a 0 7/1!;", 1);
        Told.marked("name a;brings a 0 7/1!/1;", 1);
        Told.marked("name a;brings a 0!/1 1;", 1);
        Told.marked("name a;name b;owes a b 0 7!/1 1;", 1);
    }

    private static void onlySixSorts() {
        String[] none = {"purse", "is", "not", "mans", "a", "ma", "comess", "0", "29", "-", "/", ";"};
        for (String sort : none) {
            Told.marked("name a;!" + sort + " b;", 1);
        }
        Told.good("man a;name b;comes a 0 1 1;brings a 0 1;owes a b 0 1;man c;foes a c;", 7);
    }

    // ---- NUMBERS: for each the least, the most, one less, one more

    private static void purseZeroToThree() {
        for (int purse = 0; purse < 4; purse++) {
            GateNames x = Check.with("man a purse " + purse + ";");
            due("6: purse " + purse, x.man(0, 1), purse);
        }
        Told.marked("man a purse !4;", 2);
        Told.marked("man a purse !10;", 2);
        Told.marked("man a purse !99;", 2);
    }

    private static void dayZeroTo29() {
        String head = "man a;man b;";
        String[] line = {"comes a # 1 1;", "brings a # 1;", "owes a b # 1;"};
        for (String one : line) {
            for (int day = 0; day <= DAY_MOST; day++) {
                Told.good(head + one.replace("#", "" + day), 3);
            }
            Told.marked(head + one.replace("#", "!30"), 2);
            Told.marked(head + one.replace("#", "!31"), 2);
            Told.marked(head + one.replace("#", "!99"), 2);
            Told.marked(head + one.replace("#", "!;"), 1);
            Told.marked(head + one.replace("#", "!a"), 1);
        }
    }

    private static void minutesZeroTo99() {
        Told.good("man a;comes a 0 0 0;comes a 1 99 99;comes a 2 0 99;", 4);
        GateNames x = Check.with("man a;comes a 0 0 99;");
        due("9: from 0", x.when(0, 0, 0), 0);
        due("9: to 99", x.when(0, 0, 1), 99);
        Told.marked("man a;comes a 0 !100 100;", 1);
        Told.marked("man a;comes a 0 0 !100;", 1);
        Told.marked("man a;comes a 0 !;", 1);
        Told.marked("man a;comes a 0 !a 1;", 1);
        Told.marked("man a;comes a 0 1 !;", 1);
        Told.marked("man a;comes a 0!", 1);
    }

    private static void outNoLessThanIn() {
        Told.good("man a;comes a 0 7 7;", 2);
        Told.marked("man a;comes a 0 7 !6;", 2);
        Told.marked("man a;comes a 0 1 !0;", 2);
        Told.marked("man a;comes a 0 99 !98;", 2);
        Told.marked("man a;comes a 0 99 !0;", 2);
    }

    private static void amountsZeroTo99() {
        GateNames x = Check.with("name a;brings a 0 0;brings a 1 99;brings a 2-99;brings a 3 00;");
        due("10: 0", x.mean(0, 0, 0), 0);
        due("10: 99", x.mean(0, 1, 0), 99);
        due("10: -99", x.mean(0, 2, 0), -99);
        Told.marked("name a;brings a 0 !100;", 1);
        Told.marked("name a;brings a 0-!100;", 1);
        Told.marked("name a;brings a 0 !;", 1);
    }

    private static void oddsZeroTo12() {
        GateNames x = Check.with("name a;brings a 0 9/0 12;brings a 1 9/12 12;brings a 2 9/0 1;");
        due("10: by the odds 0 of 12", x.mean(0, 0, 0), 0);
        due("10: by the odds 0 of 12", x.mean(0, 0, 1), 1);
        due("10: by the odds 12 of 12", x.mean(0, 1, 0), 9);
        due("10: by the odds 0 of 1", x.mean(0, 2, 0), 0);
        Told.marked("name a;brings a 0 9/!13 12;", 2);
        Told.marked("name a;brings a 0 9/!13 13;", 2);
        Told.marked("name a;brings a 0 9/!99;", 2);
    }

    private static void oddsOfOneTo12() {
        for (int of = 1; of <= 12; of++) {
            GateNames x = Check.with("name a;brings a 0 1/1 " + of + ";");
            due("10: 1 of " + of, x.mean(0, 0, 0), 1);
            due("10: 1 of " + of, x.mean(0, 0, 1), of);
        }
        Told.marked("name a;brings a 0 9/0 !0;", 2);
        Told.marked("name a;brings a 0 9/0 !13;", 2);
        Told.marked("name a;brings a 0 9/12 !13;", 2);
    }

    private static void oddsOfNoLess() {
        Told.good("name a;brings a 0 9/2 2;brings a 0 9/11 12;", 3);
        Told.marked("name a;brings a 0 9/2 !1;", 2);
        Told.marked("name a;brings a 0 9/12 !11;", 2);
        Told.marked("name a;brings a 0 9/1 !0;", 2);
    }

    private static void oneTo99Owed() {
        GateNames x = Check.with("name a;name b;owes a b 0 1;owes a b 1 99;");
        due("10: 1 owed", x.mean(0, 0, 0), -1);
        due("10: 99 owed", x.mean(1, 1, 0), 99);
        Told.marked("name a;name b;owes a b 0 !0;", 2);
        Told.marked("name a;name b;owes a b 0 !00;", 2);
        Told.marked("name a;name b;owes a b 0 !100;", 1);
        Told.marked("name a;name b;owes a b 0 !;", 1);
    }

    // ---- NAMES

    private static void noneOfThoseToldHere() {
        String[] line = {"man #;", "name #;", "comes # 0 1 1;", "brings # 0 1;", "owes # a 0 1;",
            "owes a # 0 1;", "foes # a;", "foes a #;"};
        for (String word : OWN) {
            for (String one : line) {
                Told.marked("man a;" + one.replace("#", "!" + word), 1);
            }
            // a letter more or less is another WORD, and so is each with one letter changed
            if (word.length() < 6) {
                Told.good("man " + word + "x;name x" + word + ";name " + word.substring(1) + "q;", 3);
            }
            for (int at = 0; at < word.length(); at++) {
                char other = (char) (word.charAt(at) == 'z' ? 'y' : word.charAt(at) + 1);
                String near = word.substring(0, at) + other + word.substring(at + 1);
                Told.good("man " + near + ";comes " + near + " 0 1 1;", 2);
                char ahead = (char) (word.charAt(at) == 'a' ? 'b' : word.charAt(at) - 1);
                Told.marked("!" + word.substring(0, at) + ahead + word.substring(at + 1) + " q;", 1);
            }
            Told.markedSights("!" + word + " is a;", 1);
            Told.markedSights("a is !" + word + ";", 1);
            Told.markedSights("a is b !" + word + ";", 1);
        }
    }

    /** Those of six letters are apart by any one of them. */
    private static void longestNames() {
        GateNames x = Check.with("name aaaaaa;name baaaaa;name abaaaa;name aabaaa;name aaabaa;"
                + "name aaaaba;name aaaaab;name zzzzzz;name a;name aa;name aaaaa;man zzzzza;brings aaaaab 0 1;");
        due("NAMES apart", x.count(1), 12);
        due("the sixth letter tells", x.mean(6, 0, 0), 1);
        Told.marked("name aaaaab;name aaaaaa;name !aaaaab;", 3);
        Told.marked("name zzzzzz;brings !zzzzz 0 1;", 3);
        Told.marked("name zzzzz;brings !zzzzzz 0 1;", 3);
    }

    private static void toldOnce() {
        Told.marked("name a;name !a;", 3);
        Told.marked("man a;man !a;", 3);
        Told.marked("man a;name !a;", 3);
        Told.marked("name a;man !a;", 3);
        Told.marked("man a purse 1;man !a purse 9;", 3);
        Told.marked("name a;name b;name c;name !a", 3);
    }

    private static void toldAhead() {
        String[] line = {"comes !b 0 1 1;", "brings !b 0 1;", "owes !b a 0 1;", "owes a !b 0 1;",
            "foes !b a;", "foes a !b;"};
        for (String one : line) {
            Told.marked("man a;" + one, 3);
            Told.marked("man a;" + one + "man b;", 3);
            Told.good("man a;man b;" + one.replace("!", ""), 3);
        }
        Told.markedSights("!x is a;", 3);
        Told.markedSights("a is !x;", 3);
        Told.markedSights("a not b !x;", 3);
    }

    private static void ofNoMan() {
        Told.marked("man a;name b;comes !b 0 1 1;", 3);
        Told.marked("man a;name b;foes !b a;", 3);
        Told.marked("man a;name b;foes a !b;", 3);
        Told.good("man a;name b;brings b 0 1;owes b a 0 1;owes a b 0 1;", 5);
        Told.markedSights("a is !c;", 3);
        Told.markedSights("a not a !c;", 3);
        Told.goodSights("c is a;", 1);
    }

    private static void oneManAndDayOnce() {
        Told.good("man a;man b;comes a 0 1 1;comes b 0 1 1;comes a 1 1 1;", 5);
        Told.marked("man a;comes a 0 1 1;comes a !0 2 2;", 3);
        Told.marked("man a;comes a 7 1 1;comes a 8 1 1;comes a !07 1 1;", 3);
        Told.marked("man a;comes a 29 1 1;comes a !29", 3);
        Told.marked("man a;comes a 0 1 1;comes a !30 1 1;", 2);
    }

    private static void owesUnlikeOnes() {
        Told.marked("man a;owes a !a 0 1;", 3);
        Told.marked("name a;owes a !a 99 0;", 3);
        Told.good("name a;name b;owes a b 0 1;owes b a 0 1;owes a b 0 1;", 5);
    }

    private static void foesUnlikeOnes() {
        Told.marked("man a;foes a !a;", 3);
        Told.marked("man a;man b;foes b !b", 3);
    }

    private static void eachTwoOnce() {
        Told.good("man a;man b;man c;foes a b;foes b c;foes c a;", 6);
        Told.marked("man a;man b;foes a b;foes a !b;", 3);
        Told.marked("man a;man b;foes a b;foes b !a;", 3);
        Told.marked("man a;man b;foes b a;foes a !b", 3);
        Told.marked("man a;man b;foes b a;foes b !a", 3);
    }

    // ---- as many as there may be, and one more

    private static void eightMen() {
        GateNames x = Check.with(EIGHT);
        due("44: eight MEN", x.count(0), 8);
        due("6: the last one", x.man(7, 0), 7);
        Check.dueThrow("6: no ninth", () -> x.man(8, 0));
        Told.marked(EIGHT + "!man i;", 4);
        Told.marked(EIGHT + "!man a;", 4);
        Told.marked(EIGHT + "!man i purse 4;", 4);
        Told.marked(EIGHT + "!man", 4);
        Told.marked(EIGHT + "name i;comes a 0 1 1;!man j;", 4);
    }

    private static void twelveNames() {
        String twelve = "name i;name j;name k;name l;" + EIGHT;
        GateNames x = Check.with(twelve);
        due("44: twelve NAMES", x.count(1), 12);
        due("7: the last one", x.owner(11), 7);
        due("7: no 13th", x.owner(12), -1);
        due("14: all of them", x.idle(0), 4095);
        Told.marked(twelve + "!name m;", 4);
        Told.marked(twelve + "!name a;", 4);
        Told.marked(twelve + "!man m;", 4);
        Told.marked("name a;name b;name c;name d;name e;name f;name g;name h;name i;name j;name k;man l;!man m;", 4);
        Told.marked("name a;name b;name c;name d;name e;name f;name g;name h;name i;name j;name k;man l;!name m;", 4);
    }

    private static String fortyComings() {
        StringBuilder text = new StringBuilder("man a;man b;");
        for (int k = 0; k < 40; k++) {
            text.append("comes ").append(k < 20 ? "a " : "b ").append(k % 20).append(" 0 0;");
        }
        return text.toString();
    }

    private static void fortyComes() {
        GateNames x = Check.with(fortyComings());
        due("44: forty", x.count(2), 40);
        due("9: the last one", x.when(1, 19, 0), 0);
        Told.marked(fortyComings() + "!comes b 20 0 0;", 4);
        Told.marked(fortyComings() + "!comes a 0 0 0;", 4);
        Told.marked(fortyComings() + "!comes", 4);
    }

    private static void fortyBrings() {
        String forty = "name a;" + "brings a 0 1;".repeat(40);
        GateNames x = Check.with(forty);
        due("44: forty", x.count(3), 40);
        due("10: all forty", x.mean(0, 0, 0), 40);
        Told.marked(forty + "!brings a 0 1;", 4);
        Told.marked(forty + "!brings q 0 1;", 4);
        Told.marked(forty + "!brings", 4);
    }

    private static void fortyOwes() {
        String forty = "name a;name b;" + "owes a b 0 1;".repeat(40);
        GateNames x = Check.with(forty);
        due("44: forty", x.count(4), 40);
        due("10: all forty", x.mean(0, 0, 0), -40);
        Told.marked(forty + "!owes b a 0 1;", 4);
        Told.marked(forty + "!owes a a 0 1;", 4);
        Told.marked(forty + "!owes", 4);
    }

    private static void allFoes() {
        StringBuilder text = new StringBuilder(EIGHT);
        for (char a = 'a'; a < 'h'; a++) {
            for (char b = (char) (a + 1); b <= 'h'; b++) {
                text.append("foes ").append(b).append(' ').append(a).append(';');
            }
        }
        GateNames x = Check.with(text.toString());
        due("44: all 28 pairs", x.count(5), 28);
        for (int m = 0; m < 8; m++) {
            due("6: all but himself", x.man(m, 2), 255 & ~(1 << m));
        }
        Told.marked(text + "foes a !b;", 3);
        Told.marked(text + "foes h !g;", 3);
    }

    private static void eachSortHasItsOwnLimit() {
        Told.good(EIGHT + "name i;" + "brings a 0 1;".repeat(40) + "owes a b 0 1;comes a 0 1 1;foes a b;", 52);
        Told.good("name a;name b;" + "owes a b 0 1;".repeat(40) + "brings a 0 1;man c;comes c 0 1 1;", 45);
        Told.good(fortyComings() + "brings a 0 1;owes a b 0 1;name c;man d;foes d a;", 47);
    }

    private static void numberedEachSort() {
        GateNames x = Check.with("name n;man a;name o;man b;");
        due("6: MAN 0", x.man(0, 0), 1);
        due("6: MAN 1", x.man(1, 0), 3);
        due("7: NAME 0", x.owner(0), -1);
        due("7: NAME 1", x.owner(1), 0);
        due("7: NAME 3", x.owner(3), 1);
    }

    // ---- FAULTS

    private static void noFault() {
        GateNames x = new GateNames();
        due("5: ahead of any", x.fault(), 0);
        x.town();
        due("5: 0 without one", x.fault(), 0);
        x.sights();
        due("5: 0 without one", x.fault(), 0);
    }

    private static void latestFault() {
        GateNames x = new GateNames();
        due("4", Check.town(x, "man a purse 4;"), -1 - 12);
        due("5: of town()", x.fault(), 2);
        due("35", Check.sights(x, "a is a;"), -1);
        due("5: of sights()", x.fault(), 3);
        Check.feed(x, "man a;comes a 0 1 1;");
        due("5: it stays", x.fault(), 3);
        due("4", x.town(), 2);
        due("5: 0 by a town() without", x.fault(), 0);
        due("35", Check.sights(x, "!"), -1);
        due("5: of sights()", x.fault(), 1);
        due("35", x.sights(), 0);
        due("5: 0 by sights() without", x.fault(), 0);
        due("4", Check.town(x, EIGHT + "man i;"), -1 - 48);
        Check.dueThrow("6", () -> x.man(1, 0));
        x.give(0, 0);
        x.dawn();
        x.back();
        x.drawn(5);
        x.rests();
        x.image(0);
        x.restore(0);
        x.end(3);
        due("5: other calls tell none", x.fault(), 4);
    }

    private static void firstAlongTheText() {
        Told.marked("name !man;name a;name a;", 1);
        Told.marked("man a purse !9;man a;!", 2);
        Told.marked("man a;man !a purse 9;.", 3);
        Told.marked(EIGHT + "!man man;", 4);
        Told.marked("man a;comes a !30 9 1", 2);
        Told.marked("man a;comes !b 30 9 1", 3);
        Told.marked("name a;owes a !a 30 0.", 3);
        Told.marked("name a;name b;owes a b !30 0.", 2);
        Told.marked("name a;brings a 0 1/!13 0.", 2);
        Told.marked("man a;foes !x a;name a;", 3);
        Told.marked("man a!.purse 9;", 1);
        Told.markedSights("a is !c x;.", 3);
        Told.markedSights("!x are a;", 3);
        Told.markedSights("a !are x;", 1);
    }

    /** A TOKEN that is wrong in more than one way. */
    private static void ofOneTokenTheLeast() {
        // no TOKEN that can come, though it is a NAME that is not told too
        Told.marked("foes !man man;", 1);
        Told.marked("man a;foes a !A;", 1);
        // no NUMBER as told, though a DAY of one MAN is told again too
        Told.marked("man a;comes a 2 1 1;comes a !99 1 1;", 2);
        // 3 ahead of 4: a 17th LINE of SIGHTS at a NAME that is not told; 1 ahead of both
        Told.markedSights("a is b;".repeat(16) + "!x is b;", 3);
        Told.markedSights("a is b;".repeat(16) + "!is is b;", 1);
        Told.markedSights("a is b;".repeat(16) + "!.", 1);
    }

    private static void atTheEnd() {
        Told.bad("name", 4, 1);
        Told.bad("name a", 6, 1);
        Told.bad("name a \n ", 9, 1);
        Told.bad(" name a;man", 11, 1);
        Told.bad("name" + " ".repeat(896), 900, 1);
        Told.badSights("a", 1, 1);
        Told.badSights("a is", 4, 1);
        Told.badSights("a is b\n\n", 8, 1);
        Told.badSights("a is" + " ".repeat(296), 300, 1);
    }

    private static void at900() {
        Told.good("name a;" + " ".repeat(893), 1);
        Told.good(" ".repeat(893) + "name a;", 1);
        for (int more = 1; more <= 40; more++) {
            Told.bad("name a;" + " ".repeat(893 + more), 900, 1);
        }
        Told.bad(" ".repeat(901), 900, 1);
        Told.bad("name a;" + "\n".repeat(893) + "name b;", 900, 1);
        Told.bad("name a;" + "\n".repeat(893) + "name a;", 900, 1);
        Told.bad("name a;" + "\n".repeat(893) + ".", 900, 1);
        Told.bad("name a;" + "\n".repeat(893) + ";", 900, 1);
    }

    private static void at900IfNoneIsAhead() {
        Told.bad("name." + " ".repeat(935), 4, 1);
        Told.bad("name a;name a;" + " ".repeat(926), 12, 3);
        Told.bad("man a purse 4;" + " ".repeat(926), 12, 2);
        Told.bad(EIGHT + "man i;" + " ".repeat(880), 48, 4);
        Told.bad(" ".repeat(899) + ".", 899, 1);
        Told.bad(" ".repeat(899) + "..", 899, 1);
        Told.bad(" ".repeat(900) + "..", 900, 1);
    }

    private static void tokensAheadOf900AreWhole() {
        // from 899 on: a NAME that is told and stays right, one that is told twice, one too long
        Told.bad("name a;name" + " ".repeat(888) + "abcdef;", 900, 1);
        Told.bad("name abcdef;name" + " ".repeat(883) + "abcdef;", 899, 3);
        Told.bad("name a;name" + " ".repeat(888) + "abcdefg;", 899, 1);
        Told.bad("name a;name" + " ".repeat(888) + "man;", 899, 1);
        Told.bad("man a purse" + " ".repeat(888) + "02;", 900, 1);
        Told.bad("man a purse" + " ".repeat(888) + "22;", 899, 2);
        Told.bad("man a purse" + " ".repeat(888) + "022;", 899, 1);
        Told.bad("man a purse" + " ".repeat(888) + "2a;", 899, 1);
        // a LINE's first WORD from 899 on: one too many, or none that can come
        Told.bad(EIGHT + " ".repeat(899 - EIGHT.length()) + "man i;", 899, 4);
        Told.bad(EIGHT + " ".repeat(899 - EIGHT.length()) + "mani i;", 899, 1);
        Told.bad(EIGHT + " ".repeat(899 - EIGHT.length()) + "name i;", 900, 1);
        // from 900 on nothing is read
        Told.bad("name a;name" + " ".repeat(889) + "a;", 900, 1);
        Told.bad("man a purse" + " ".repeat(889) + "9;", 900, 1);
        Told.bad("name a" + " ".repeat(893) + ";" + " ", 900, 1);
        Told.good("name a" + " ".repeat(893) + ";", 1);
    }

    private static GateNames used() {
        GateNames x = Check.with("man a purse 2;man b;name c;man d;foes a b;foes d b;comes a 0 5 9;"
                + "comes b 0 4 8;comes d 0 7 7;comes a 1 1 1;brings a 0 7/1 3;brings c 1-5;brings b 0 2;"
                + "owes a b 0 6;owes b c 0 9;owes c a 1 3;");
        due("11", x.give(1, 0), 0);
        due("11", x.give(0, 1), 0);
        due("35", Check.sights(x, "a not a;b is a d;"), 2);
        due("15", x.dawn(), 1);
        due("11", x.give(0, 2), 0);
        due("16", x.back(), 0);
        due("16", x.back(), 1);
        x.matched(0, -1, 0);
        x.serial(0, 0);
        return x;
    }

    private static void faultyTownStays() {
        GateNames x = used();
        String before = State.kept(x);
        String[] wrong = {"!", "man z;man y;name w;comes z 0 1 1;brings w 0 9;owes z w 0 9;foes z y;.",
            "man z purse 9;", "name z;name z;", EIGHT + "man i;", "name", " ".repeat(901)};
        for (String text : wrong) {
            due("4: a FAULT", Check.town(x, text) < 0 ? 1 : 0, 1);
            State.due("4: it stays", State.kept(x), before);
        }
        due("22: so does what matched() told", x.matchedAs(0), used().matchedAs(0));
        due("25: and what serial() told", x.serialAs(1), used().serialAs(1));
        due("16: NAMES given are taken back as ever", x.back(), 0);
        due("12", x.gave(0, 0), -1);
        due("12", x.gave(1, 0), 0);
    }

    private static void newTownIsAllNew() {
        String text = "man p;man q;comes p 0 1 1;comes q 0 1 1;comes p 1 2 2;name r;";
        GateNames x = used();
        x.dawn();
        due("4", Check.town(x, text), 6);
        due("a new TOWN: DAY 0", x.count(6), 0);
        due("a new TOWN: nothing given", x.count(7), 0);
        due("a new TOWN: no SIGHTS", x.count(8), 0);
        due("a new TOWN: nothing to take back", x.back(), -1);
        State.due("a new TOWN: nothing of the old one", State.kept(x), State.kept(Check.with(text)));
        due("the same text again", x.give(0, 1), 0);
        due("35", Check.sights(x, "q is p;"), 1);
        due("4", Check.town(x, text), 6);
        State.due("a new TOWN though it is told alike", State.kept(x), State.kept(Check.with(text)));
    }

    private static void newTownBehindMany() {
        String[] texts = {"man a purse 1;man b;foes a b;comes a 0 1 1;comes b 0 1 1;brings a 0 5;owes a b 0 7;",
            "name z;", "", "man d;man e purse 3;man f;comes f 29 0 99;",
            EIGHT + "foes a h;foes b c;comes h 0 5 5;comes a 0 5 9;brings h 0 3;owes h a 0 4;"};
        GateNames x = new GateNames();
        for (int k = 0; k < 4 * texts.length; k++) {
            String text = texts[k * 3 % texts.length];
            Check.town(x, text);
            State.due("TOWN " + k + " <" + text + ">", State.kept(x), State.kept(Check.with(text)));
            x.drawn(k);
            x.dawn();
            Check.sights(x, "a is b;");
            Check.town(x, "man t purse 2;man u;foes t u;comes t 0 1 1;brings t 0 1;owes t u 0 1;man v purse 9;");
        }
    }

    // ---- SIGHTS

    private static void sightsOf300() {
        Told.goodSights("", 0);
        Told.goodSights(" \n", 0);
        Told.goodSights("a is b;" + " ".repeat(293), 1);
        Told.goodSights(" ".repeat(293) + "a is b;", 1);
        for (int more = 1; more <= 640; more += 71) {
            Told.badSights("a is b;" + " ".repeat(293 + more), 300, 1);
        }
        Told.badSights(" ".repeat(301), 300, 1);
        Told.badSights(" ".repeat(300) + "a is b;", 300, 1);
        Told.badSights(" ".repeat(299) + ".", 299, 1);
        Told.badSights(" ".repeat(299) + "..", 299, 1);
        Told.badSights("a.is" + " ".repeat(297), 1, 1);
    }

    private static void tokensAheadOf300AreWhole() {
        Told.badSights("a is" + " ".repeat(295) + "aa;", 299, 3);
        Told.badSights("a is" + " ".repeat(295) + "a0;", 299, 1);
        Told.badSights("a is" + " ".repeat(295) + "is;", 299, 1);
        Told.badSights("a" + " ".repeat(298) + "is b;", 300, 1);
        Told.badSights("a" + " ".repeat(298) + "iss b;", 299, 1);
        Told.badSights("a is b" + " ".repeat(293) + "; ", 300, 1);
        Told.goodSights("a is b" + " ".repeat(293) + ";", 1);
        Told.badSights("a is" + " ".repeat(296) + "aa;", 300, 1);
        Told.badSights("a is b;".repeat(16) + " ".repeat(187) + "aa", 299, 3);
    }

    private static void sixteenLines() {
        Told.goodSights("a is b;".repeat(15), 15);
        Told.goodSights("a is b;".repeat(16), 16);
        Told.goodSights("a is b;".repeat(8) + "b not a;".repeat(8) + "\n", 16);
        GateNames x = Check.with("man a;man b;comes a 0 1 1;comes b 0 1 1;");
        x.give(0, 1);
        x.give(1, 0);
        due("35", Check.sights(x, "a is b;".repeat(15) + "b not a;"), 16);
        due("36: the 16th tells too", x.holds(), 0);
    }

    private static void aSeventeenthLine() {
        Told.markedSights("a is b;".repeat(16) + "!a is b;", 4);
        Told.markedSights("a is b;".repeat(16) + " !c", 4);
        Told.markedSights("a is b;".repeat(16) + "\n!d is x", 4);
        Told.markedSights("a is b;".repeat(16) + "!b.", 4);
        Told.markedSights("a is b;".repeat(16) + "!;", 1);
    }

    private static void sightsOfManyMen() {
        Told.goodSights("a is a b d;", 1);
        Told.goodSights("a is b b b b b b b b b b b b;", 1);
        Told.goodSights("a not" + " d".repeat(147) + ";", 1);
        Told.markedSights("a is!;", 1);
        Told.markedSights("a not!;", 1);
        GateNames x = Check.with(EIGHT + "name i;comes a 0 1 1;comes b 0 2 2;comes h 0 3 3;");
        x.give(0, 8);
        x.give(1, 0);
        x.give(7, 1);
        due("35", Check.sights(x, "i is h g a f c;"), 1);
        due("37: one of these MEN", x.could(8), 129);
        due("35", Check.sights(x, "i not h g f c;"), 1);
        due("37: none of these", x.could(8), 3);
    }

    private static void sightsNames() {
        Told.goodSights("c is a;d is a;a is a;", 3);
        Told.markedSights("!e is a;", 3);
        Told.markedSights("a is !e;", 3);
        Told.markedSights("a is b !c;", 3);
        Told.markedSights("!man is a;", 1);
        Told.markedSights("!0 is a;", 1);
        Told.markedSights("a is !0;", 1);
        GateNames x = new GateNames();
        due("35: no NAMES are told", Check.sights(x, "a is a;"), -1);
        due("5", x.fault(), 3);
    }

    private static void sightsGrammar() {
        Told.goodSights("a is b;a not b;", 2);
        Told.markedSights("a !isnot b;", 1);
        Told.markedSights("a is !not b;", 1);
        Told.markedSights("a not !is b;", 1);
        Told.markedSights("a !b;", 1);
        Told.markedSights("a !; b;", 1);
        Told.markedSights("a is b!", 1);
        Told.markedSights("a is b !is a;", 1);
        Told.markedSights("a is b;!;", 1);
        Told.markedSights("a is b !- d;", 1);
        Told.markedSights("a is b !/;", 1);
        Told.markedSights("a is b !5;", 1);
        for (String word : OWN) {
            if (!word.equals("is") && !word.equals("not")) {
                Told.markedSights("a !" + word + " b;", 1);
            }
        }
    }

    private static void faultySightsStay() {
        GateNames x = used();
        String before = State.kept(x);
        String[] wrong = {"!", "a is a;x is a;", "a is c;", "a is b;".repeat(17), "a", " ".repeat(301),
            "a is d;b is d;c is d;d is d;.", "b is b;b"};
        for (String text : wrong) {
            due("35: a FAULT", Check.sights(x, text) < 0 ? 1 : 0, 1);
            State.due("35: they stay", State.kept(x), before);
        }
    }

    private static void newSights() {
        GateNames x = used();
        due("44", x.count(8), 2);
        due("35", Check.sights(x, "a is d;"), 1);
        due("44: these alone", x.count(8), 1);
        due("36: nobody gave who may have it", x.holds(), 0);
        due("35", x.sights(), 0);
        due("44: none", x.count(8), 0);
        due("36", x.holds(), 1);
        x.dawn();
        due("35", Check.sights(x, "c not a;"), 1);
        x.back();
        due("44: they are no DAY's", x.count(8), 1);
    }
}
