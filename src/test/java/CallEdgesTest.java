import java.math.BigInteger;

/** Sentences about what the TOWN is asked, gives and keeps that name an edge: a test for each. */
public final class CallEdgesTest {

    /** What is no MAN, no NAME, no DAY, no minute and no part of an answer anywhere. */
    private static final int[] NO_SUCH = {-2, -3, 100, 128, 256, 65536, Integer.MAX_VALUE,
        Integer.MIN_VALUE, Integer.MIN_VALUE + 1, 0x40000000, -256};

    private static final String EIGHT = "man a;man b;man c;man d;man e;man f;man g;man h;";
    private static final String FOUR_MORE = "name i;name j;name k;name l;";

    /** MEANS of the NAMES a, b, c, x on DAY 0: 16, -4, -6, 5. b comes ahead of a, a ahead of c. */
    private static final String TOWN = "man a purse 1;man b purse 1;man c;name x;"
            + "comes a 0 5 20;comes b 0 3 9;comes c 0 5 30;comes a 1 0 9;"
            + "brings a 0 10;brings b 0 -4;brings x 0 20/1 4;brings x 1 7/1 3;"
            + "owes c a 0 6;foes a b;";

    public static void main(String[] args) {
        telling();
        giving();
        days();
        debts();
        matching();
        turns();
        town();
        lots();
        guesses();
        drawing();
        keeping();
        Check.end("CallEdgesTest");
    }

    private static void due(String what, long got, long want) {
        Check.due(what, got, want);
    }

    private static void telling() {
        noSuchMan();
        manWithoutPurseOrFoes();
        ownersOfNone();
        comersOfNone();
        comersInOrder();
        comersOfOneMinute();
        whenHeDoesNotCome();
        meanOfNone();
        meanOfNothing();
        meanInLeastTerms();
        meanOwedThatDay();
        meanOfMost();
    }

    private static void giving() {
        wrongOne();
        wrongTwo();
        wrongThree();
        wrongFour();
        wrongFive();
        theLeastWrong();
        noSuchGiver();
        whatIsWrongChangesNothing();
        upToNow();
        idleUpToNow();
        idleOfAll();
    }

    private static void days() {
        dayIsZeroAtFirst();
        dawnUpTo29();
        backTakesTheLatest();
        backWithoutOne();
        backOnDayZero();
        givenAgainAfterBack();
        outOfNothing();
        outOfDayNowToo();
        outOfNone();
    }

    private static void debts() {
        debtEachOnOneDay();
        debtOfManyLines();
        debtsUpToNow();
        debtOfNone();
        netZeroAtLeast();
        ringsOfNothing();
        ringsOfThree();
        ringsOfAChain();
    }

    private static void matching() {
        matchedOfNone();
        matchedOfAll();
        matchedOfAPurse();
        matchedOfNobody();
        matchedNotEach();
        matchedFirstOfLikeOnes();
        matchedBelowZero();
        matchedOfEightAndTwelve();
        matchedOfEightWithPurses();
        matchedAsOfTheLatest();
        wantOfNone();
        wantWithout();
        wantBelowZero();
        wantNotEach();
    }

    private static void turns() {
        serialInOrder();
        serialOfLikeOnes();
        serialNotEach();
        serialOfNobody();
        serialAsOfTheLatest();
        envyOfNobody();
        envyGreaterAlone();
        envyNotHisOwn();
        restsNotAsTold();
        restsOfNobody();
        restsOfLikeOnes();
        restsByNone();
        restsButHisOwn();
        restsOfHighPrices();
        restsOfEightAndTwelve();
    }

    private static void town() {
        inTownBothWithThem();
        inTownOfNone();
        crowdOfNobody();
        crowdFirstMinute();
        crowdOfNone();
        meetsInOneMinute();
        meetsOfNone();
        meetsOfAll();
        laterNobody();
        laterJustPast();
        laterBeyondTheDay();
        laterOfNone();
    }

    private static void lots() {
        lotsOfNobody();
        lotsOfNoWay();
        lotsOfMost();
        lotsOfNoDay();
        lotsOfHisOwn();
        lotsOfNone();
        lotMeanOfNoWays();
        lotMeanOfNone();
        lotMeanInLeastTerms();
    }

    private static void guesses() {
        holdsOfNone();
        holdsOfOne();
        holdsOfEight();
        sightsOfNamesNotGiven();
        couldOfNone();
        couldByNoHolds();
        lookOfNone();
        bestOfNone();
        bestOfLikeOnes();
        questionsOfNone();
        questionsOfHimWhoIsKnown();
        questionsOfTheLeastSet();
        questionsOfEight();
        guessesOnDayNow();
    }

    private static void drawing() {
        drawnOfNobody();
        drawnWraps();
        drawnOfThoseWhoGaveNone();
        drawnForWhomThereIsNone();
        drawnOfOne();
    }

    private static void keeping() {
        imageOfNoPlace();
        restoreOfNoPlace();
        restoreOfNothing();
        imageKeepsAll();
        imageKeepsItself();
        restoreLeavesTheRest();
        imagesAreTwo();
        countOfNone();
        throwsChangeNothing();
        refusedCallsChangeNothing();
        fullTowns();
        nothingOfOldTowns();
        askingChangesNothing();
        usedFor512Calls();
    }

    // ---- promises 6 to 10: what is told

    private static void noSuchMan() {
        GateNames x = Check.with(TOWN);
        Check.dueThrow("6: the fourth of three", () -> x.man(3, 0));
        Check.dueThrow("6: -1", () -> x.man(-1, 0));
        Check.dueThrow("6: what 3", () -> x.man(0, 3));
        Check.dueThrow("6: what -1", () -> x.man(0, -1));
        for (int none : NO_SUCH) {
            Check.dueThrow("6: no such MAN", () -> x.man(none, 2));
            Check.dueThrow("6: no such what", () -> x.man(0, none));
        }
        Check.dueThrow("6: of an empty TOWN", () -> new GateNames().man(0, 0));
    }

    private static void manWithoutPurseOrFoes() {
        GateNames x = Check.with("name y;man a;man b purse 3;man c purse 0;foes c b;");
        due("6: NONE: none", x.man(0, 1), -1);
        due("6: purse 3", x.man(1, 1), 3);
        due("6: purse 0", x.man(2, 1), 0);
        due("6: no foes", x.man(0, 2), 0);
        due("6: foes of both", x.man(1, 2), 4);
        due("6: foes of both", x.man(2, 2), 2);
        due("6: his NAME's number", x.man(2, 0), 3);
    }

    private static void ownersOfNone() {
        GateNames x = Check.with("man a;name y;");
        due("7: his own", x.owner(0), 0);
        due("7: nobody's", x.owner(1), -1);
        due("7: no such one", x.owner(2), -1);
        due("7: no such one", x.owner(-1), -1);
        for (int none : NO_SUCH) {
            due("7: no such one", x.owner(none), -1);
        }
        due("7: of an empty TOWN", new GateNames().owner(0), -1);
    }

    private static void comersOfNone() {
        GateNames x = Check.with(TOWN);
        due("8: how many", x.comer(0, -1), 3);
        due("8: the last one", x.comer(0, 2), 2);
        due("8: none behind it", x.comer(0, 3), -1);
        due("8: how many of nobody", x.comer(2, -1), 0);
        due("8: none of nobody", x.comer(2, 0), -1);
        due("8: DAY 29", x.comer(29, -1), 0);
        due("8: DAY 30", x.comer(30, -1), -1);
        due("8: DAY -1", x.comer(-1, -1), -1);
        due("8: DAY -1", x.comer(-1, 0), -1);
        for (int none : NO_SUCH) {
            due("8: none such", x.comer(0, none), -1);
            due("8: no such DAY", x.comer(none, -1), -1);
            due("8: no such DAY", x.comer(none, 0), -1);
        }
    }

    private static void comersInOrder() {
        GateNames x = Check.with("man a;man b;man c;man d;comes a 9 99 99;comes b 9 0 99;comes c 9 50 50;"
                + "comes d 9 49 98;comes a 8 0 0;");
        int[] order = {1, 3, 2, 0};
        for (int k = 0; k < 4; k++) {
            due("8: in order of IN", x.comer(9, k), order[k]);
        }
        due("8: of that DAY alone", x.comer(8, -1), 1);
    }

    private static void comersOfOneMinute() {
        StringBuilder text = new StringBuilder(EIGHT);
        for (char c = 'h'; c >= 'a'; c--) {
            text.append("comes ").append(c).append(" 29 7 ").append(7 + c - 'a').append(';');
        }
        GateNames x = Check.with(text.toString());
        due("8: all eight", x.comer(29, -1), 8);
        for (int k = 0; k < 8; k++) {
            due("8: of like ones the lesser MAN", x.comer(29, k), k);
        }
        due("8: no ninth", x.comer(29, 8), -1);
    }

    private static void whenHeDoesNotCome() {
        GateNames x = Check.with(TOWN);
        due("9: he comes", x.when(0, 1, 0), 0);
        due("9: he goes", x.when(0, 1, 1), 9);
        due("9: he does not come", x.when(1, 1, 0), -1);
        due("9: he does not come", x.when(1, 1, 1), -1);
        due("9: no third thing", x.when(0, 1, 2), -1);
        due("9: what -1", x.when(0, 1, -1), -1);
        due("9: MAN 3", x.when(3, 0, 0), -1);
        due("9: MAN -1", x.when(-1, 0, 0), -1);
        due("9: DAY 30", x.when(0, 30, 0), -1);
        due("9: DAY -1", x.when(0, -1, 0), -1);
        for (int none : NO_SUCH) {
            due("9: no such MAN", x.when(none, 0, 0), -1);
            due("9: no such DAY", x.when(0, none, 0), -1);
            due("9: no such what", x.when(0, 0, none), -1);
        }
    }

    private static void meanOfNone() {
        GateNames x = Check.with(TOWN);
        Check.dueThrow("10: NAME 4", () -> x.mean(4, 0, 0));
        Check.dueThrow("10: NAME -1", () -> x.mean(-1, 0, 0));
        Check.dueThrow("10: DAY 30", () -> x.mean(0, 30, 0));
        Check.dueThrow("10: DAY -1", () -> x.mean(0, -1, 0));
        Check.dueThrow("10: what 2", () -> x.mean(0, 0, 2));
        Check.dueThrow("10: what -1", () -> x.mean(0, 0, -1));
        for (int none : NO_SUCH) {
            Check.dueThrow("10: no such NAME", () -> x.mean(none, 0, 0));
            Check.dueThrow("10: no such DAY", () -> x.mean(0, none, 0));
            Check.dueThrow("10: no such what", () -> x.mean(0, 0, none));
        }
    }

    private static void fraction(String what, long above, long below, long wantAbove, long wantBelow) {
        due(what + " above", above, wantAbove);
        due(what + " below", below, wantBelow);
    }

    private static void mean(GateNames x, int n, int day, long above, long below) {
        fraction("10: mean(" + n + ", " + day + ")", x.mean(n, day, 0), x.mean(n, day, 1), above, below);
    }

    private static void meanOfNothing() {
        GateNames x = Check.with("name a;name b;brings a 0 5/1 2;brings a 0-5/2 4;brings b 0 99/0 12;owes a b 1 9;"
                + "brings a 1 9;");
        mean(x, 0, 0, 0, 1);
        mean(x, 1, 0, 0, 1);
        mean(x, 0, 1, 0, 1);
        mean(x, 0, 29, 0, 1);
    }

    private static void meanInLeastTerms() {
        GateNames x = Check.with("name a;brings a 0 6/4 12;brings a 1 7/10 12;brings a 2-7/10 12;brings a 3 5/3 7;"
                + "brings a 3 5/4 11;brings a 4 1/1 11;brings a 4 1/1 9;brings a 4 1/1 8;brings a 4 1/1 7;"
                + "brings a 4 1/1 5;brings a 5-1/1 2;brings a 5-1/1 3;brings a 5-1/1 6;");
        mean(x, 0, 0, 2, 1);
        mean(x, 0, 1, 35, 6);
        mean(x, 0, 2, -35, 6);
        mean(x, 0, 3, 305, 77);
        mean(x, 0, 4, 2520 + 3080 + 3465 + 3960 + 5544, 27720);
        mean(x, 0, 5, -1, 1);
    }

    private static void meanOwedThatDay() {
        GateNames x = Check.with("name a;name b;name c;owes a b 3 5;owes c b 3 7;owes b c 3 1;owes a b 4 2;");
        mean(x, 0, 3, -5, 1);
        mean(x, 1, 3, 11, 1);
        mean(x, 2, 3, -6, 1);
        mean(x, 0, 2, 0, 1);
        mean(x, 0, 4, -2, 1);
        mean(x, 1, 4, 2, 1);
        mean(x, 2, 4, 0, 1);
    }

    private static void meanOfMost() {
        GateNames x = Check.with("name a;name b;" + "brings a 0 99;".repeat(40));
        mean(x, 0, 0, 3960, 1);
        Check.town(x, "name a;name b;" + "brings a 0-99;".repeat(40));
        mean(x, 0, 0, -3960, 1);
        Check.town(x, "name a;name b;" + "owes a b 29 99;".repeat(40));
        mean(x, 0, 29, -3960, 1);
        mean(x, 1, 29, 3960, 1);
    }

    // ---- promises 11 to 14: NAMES given

    private static void wrongOne() {
        GateNames x = Check.with("man a;man b;name y;comes a 1 0 0;comes b 0 0 0;");
        due("11: he comes on another DAY", x.give(0, 2), 1);
        due("11: he comes that DAY", x.give(1, 2), 0);
        x.dawn();
        due("11: now he comes", x.give(0, 2), 0);
        due("11: now he does not", x.give(1, 0), 1);
    }

    private static void wrongTwo() {
        GateNames x = Check.with(TOWN);
        due("11", x.give(1, 3), 0);
        due("11: he gave one already", x.give(1, 0), 2);
        due("11: the same again", x.give(1, 3), 2);
        due("12: it is the first", x.gave(1, 0), 3);
    }

    private static void wrongThree() {
        GateNames x = Check.with(TOWN);
        due("11: his own", x.give(1, 1), 3);
        x = Check.with("name y;man a;comes a 0 0 0;");
        due("11: his own, not his number", x.give(0, 1), 3);
        due("11: his number, not his own", x.give(0, 0), 0);
    }

    private static void wrongFour() {
        GateNames x = Check.with(TOWN);
        due("11", x.give(1, 3), 0);
        due("11: given since dawn", x.give(0, 3), 4);
        x.dawn();
        due("11: not since the next dawn", x.give(0, 3), 0);
        x.back();
        x.back();
        due("11: on the DAY ahead it is still given", x.give(0, 3), 4);
        x.back();
        due("11: taken back", x.give(1, 0), 0);
        due("11: it may be given again", x.give(0, 3), 0);
    }

    private static void wrongFive() {
        GateNames x = Check.with(TOWN + "man d;comes d 1 0 0;");
        due("11: b is ahead", x.give(0, 3), 5);
        due("11: both are ahead", x.give(2, 3), 5);
        x.give(1, 3);
        due("11: a is ahead, of the same minute", x.give(2, 0), 5);
        due("11", x.give(0, 1), 0);
        due("11: nobody is ahead", x.give(2, 0), 0);
        x.dawn();
        due("11: a is ahead of d", x.give(3, 0), 5);
        due("11: a is the first, though others come on other DAYS", x.give(0, 1), 0);
        due("11", x.give(3, 0), 0);
    }

    private static void theLeastWrong() {
        GateNames x = Check.with(TOWN + "man d;");
        due("11: 1 ahead of 3", x.give(3, 4), 1);
        due("11: 3 ahead of 5", x.give(0, 0), 3);
        due("11", x.give(1, 0), 0);
        due("11: 1 ahead of 4", x.give(3, 0), 1);
        due("11: 2 ahead of 3", x.give(1, 1), 2);
        due("11: 2 ahead of 4", x.give(1, 0), 2);
        due("11: 3 ahead of 4", x.give(0, 0), 3);
        due("11: 4 ahead of 5", x.give(2, 0), 4);
        due("11: 3 ahead of 5", x.give(2, 2), 3);
        due("11: no such NAME ahead of all", x.give(3, 5), -1);
        due("11: no such MAN ahead of all", x.give(4, 0), -1);
    }

    private static void noSuchGiver() {
        GateNames x = Check.with(TOWN);
        due("11: MAN 3", x.give(3, 0), -1);
        due("11: MAN -1", x.give(-1, 0), -1);
        due("11: NAME 4", x.give(1, 4), -1);
        due("11: NAME -1", x.give(1, -1), -1);
        for (int none : NO_SUCH) {
            due("11: no such MAN", x.give(none, 0), -1);
            due("11: no such NAME", x.give(1, none), -1);
        }
        due("11: of an empty TOWN", new GateNames().give(0, 0), -1);
    }

    private static void whatIsWrongChangesNothing() {
        GateNames x = Check.with(TOWN + "man d;");
        x.give(1, 3);
        String before = State.whole(x);
        int[][] wrong = {{3, 0, 1}, {1, 0, 2}, {0, 0, 3}, {0, 3, 4}, {2, 0, 5}, {0, 5, -1}, {4, 0, -1}};
        for (int[] one : wrong) {
            due("11: WRONG", x.give(one[0], one[1]), one[2]);
            State.due("11: WRONG " + one[2] + " gives nothing", State.whole(x), before);
        }
    }

    private static void upToNow() {
        GateNames x = Check.with(TOWN);
        x.give(1, 3);
        x.dawn();
        due("12: he gave", x.gave(1, 0), 3);
        due("13: it was given", x.bearer(3, 0), 1);
        due("12: he gave none", x.gave(0, 0), -1);
        due("13: nobody gave it", x.bearer(0, 0), -1);
        due("12: none on DAY now", x.gave(1, 1), -1);
        due("13: none on DAY now", x.bearer(3, 1), -1);
        due("12: none on a DAY to come", x.gave(0, 2), -1);
        due("13: none on a DAY to come", x.bearer(3, 2), -1);
        due("12: MAN 3", x.gave(3, 0), -1);
        due("12: MAN -1", x.gave(-1, 0), -1);
        due("12: DAY -1", x.gave(1, -1), -1);
        due("12: DAY 30", x.gave(1, 30), -1);
        due("13: NAME 4", x.bearer(4, 0), -1);
        due("13: NAME -1: nobody who gave none", x.bearer(-1, 0), -1);
        due("13: DAY -1", x.bearer(3, -1), -1);
        due("13: DAY 30", x.bearer(3, 30), -1);
        for (int none : NO_SUCH) {
            due("12: no such MAN", x.gave(none, 0), -1);
            due("12: no such DAY", x.gave(1, none), -1);
            due("13: no such NAME", x.bearer(none, 0), -1);
            due("13: no such DAY", x.bearer(3, none), -1);
        }
    }

    private static void idleUpToNow() {
        GateNames x = Check.with(TOWN);
        x.give(1, 3);
        due("14", x.idle(0), 7);
        due("14: the next DAY", x.idle(1), -1);
        due("14: DAY -1", x.idle(-1), -1);
        x.dawn();
        due("14: DAY now", x.idle(1), 15);
        due("14: the DAY ahead", x.idle(0), 7);
        due("14: the next DAY", x.idle(2), -1);
        x.back();
        due("14: no more up to now", x.idle(1), -1);
        for (int day = 1; day < 30; day++) {
            x.dawn();
            due("14: DAY " + day, x.idle(day), 15);
            due("14: the next DAY", x.idle(day + 1), -1);
        }
        for (int none : NO_SUCH) {
            due("14: no such DAY", x.idle(none), -1);
        }
    }

    private static void idleOfAll() {
        due("14: no NAMES", new GateNames().idle(0), 0);
        GateNames x = Check.with(EIGHT + FOUR_MORE + "comes a 0 1 1;");
        due("14: all twelve", x.idle(0), 4095);
        x.give(0, 11);
        due("14: but the last one", x.idle(0), 2047);
        x = Check.with("man a;man b;comes a 0 1 1;comes b 0 1 1;");
        x.give(0, 1);
        x.give(1, 0);
        due("14: all given", x.idle(0), 0);
    }

    // ---- promises 15 to 17: DAYS, OUT

    private static void dayIsZeroAtFirst() {
        due("DAY now is 0 at first", new GateNames().count(6), 0);
        due("DAY now is 0 at first", Check.with(TOWN).count(6), 0);
    }

    private static void dawnUpTo29() {
        GateNames x = new GateNames();
        for (int day = 1; day <= 29; day++) {
            due("15: its number", x.dawn(), day);
            due("44: DAY now", x.count(6), day);
        }
        due("15: it is 29", x.dawn(), -1);
        due("15: it is 29", x.dawn(), -1);
        due("44: it is 29", x.count(6), 29);
        for (int day = 28; day >= 0; day--) {
            due("16: the DAY ahead", x.back(), 1);
            due("44: DAY now", x.count(6), day);
        }
        due("16: it is 0", x.back(), -1);
        due("44: it is 0", x.count(6), 0);
        due("15: once more", x.dawn(), 1);
    }

    private static void backTakesTheLatest() {
        GateNames x = Check.with(TOWN);
        x.give(1, 3);
        x.give(0, 1);
        x.give(2, 0);
        due("16: c's", x.back(), 0);
        due("12", x.gave(2, 0), -1);
        due("12", x.gave(0, 0), 1);
        due("16: a's", x.back(), 0);
        due("12", x.gave(0, 0), -1);
        due("12", x.gave(1, 0), 3);
        due("44", x.count(7), 1);
        due("16: b's", x.back(), 0);
        due("12", x.gave(1, 0), -1);
        due("44", x.count(7), 0);
        x.drawn(3);
        due("16: drawn ones too, the last ahead", x.back(), 0);
        due("12", x.gave(2, 0), -1);
        due("12", x.gave(0, 0) == -1 ? 1 : 0, 0);
    }

    private static void backWithoutOne() {
        GateNames x = Check.with(TOWN);
        x.give(1, 3);
        x.dawn();
        x.dawn();
        due("16: the DAY ahead", x.back(), 1);
        due("44: DAY 1", x.count(6), 1);
        due("16: the DAY ahead", x.back(), 1);
        due("44: DAY 0", x.count(6), 0);
        due("12: what was given stays", x.gave(1, 0), 3);
        due("16: it is the latest on DAY now", x.back(), 0);
        due("44: DAY 0 still", x.count(6), 0);
    }

    private static void backOnDayZero() {
        GateNames x = Check.with(TOWN);
        due("16: nothing given on DAY 0", x.back(), -1);
        due("16: of an empty TOWN", new GateNames().back(), -1);
        x.give(1, 3);
        due("16", x.back(), 0);
        due("16: nothing left", x.back(), -1);
        due("44: DAY 0", x.count(6), 0);
    }

    private static void givenAgainAfterBack() {
        GateNames x = Check.with(TOWN);
        x.give(1, 3);
        x.give(0, 1);
        x.back();
        due("11: another NAME", x.give(0, 2), 0);
        due("12", x.gave(0, 0), 2);
        x.back();
        x.back();
        due("11: he must wait again", x.give(0, 3), 5);
        due("11: it was taken back", x.give(1, 3), 0);
    }

    private static void outOfNothing() {
        GateNames x = Check.with(TOWN);
        fraction("17: nothing given", x.out(0, 0), x.out(0, 1), 0, 1);
        x.give(1, 3);
        x.back();
        fraction("17: taken back", x.out(1, 0), x.out(1, 1), 0, 1);
        x = Check.with("man a;name y;comes a 0 1 1;brings y 1 9;");
        x.give(0, 1);
        fraction("17: it brings nothing on its DAY", x.out(0, 0), x.out(0, 1), 0, 1);
    }

    private static void outOfDayNowToo() {
        GateNames x = Check.with("man a;name y;comes a 0 1 1;comes a 1 1 1;comes a 29 1 1;brings y 0 1/1 6;"
                + "brings y 1-1/2 3;brings y 29 1/1 2;brings y 2 50;brings a 0 70;");
        x.give(0, 1);
        fraction("17: DAY now, too", x.out(0, 0), x.out(0, 1), 1, 6);
        x.dawn();
        fraction("17: of the DAY ahead", x.out(0, 0), x.out(0, 1), 1, 6);
        x.give(0, 1);
        fraction("17: below nothing", x.out(0, 0), x.out(0, 1), -1, 2);
        for (int day = 2; day < 30; day++) {
            x.dawn();
        }
        x.give(0, 1);
        fraction("17: all together", x.out(0, 0), x.out(0, 1), 0, 1);
        x.back();
        fraction("17: less one", x.out(0, 0), x.out(0, 1), -1, 2);
    }

    private static void outOfNone() {
        GateNames x = Check.with(TOWN);
        Check.dueThrow("17: MAN 3", () -> x.out(3, 0));
        Check.dueThrow("17: MAN -1", () -> x.out(-1, 0));
        Check.dueThrow("17: what 2", () -> x.out(0, 2));
        Check.dueThrow("17: what -1", () -> x.out(0, -1));
        for (int none : NO_SUCH) {
            Check.dueThrow("17: no such MAN", () -> x.out(none, 0));
            Check.dueThrow("17: no such what", () -> x.out(0, none));
        }
    }

    // ---- promises 18 to 20: DEBTS, NET, RINGS

    private static void debtEachOnOneDay() {
        GateNames x = Check.with("man a;man b;name p;name q;comes a 0 1 1;comes b 0 2 2;comes a 1 1 1;"
                + "comes b 1 2 2;owes p q 0 5;owes p q 1 7;owes p q 2 9;");
        x.give(0, 2);
        due("18: q was given by nobody", x.debt(0, 1), 0);
        x.give(1, 3);
        due("18: both on DAY 0", x.debt(0, 1), 5);
        due("18: not back", x.debt(1, 0), 0);
        x.dawn();
        due("18: DAY 0 still", x.debt(0, 1), 5);
        x.give(0, 3);
        x.give(1, 2);
        due("18: the other way on DAY 1", x.debt(1, 0), 7);
        due("18: each on one DAY", x.debt(0, 1), 5);
        x.back();
        due("18: taken back", x.debt(1, 0), 0);
    }

    private static void debtOfManyLines() {
        GateNames x = Check.with("man a;man b;name p;comes a 0 1 1;comes b 0 2 2;"
                + "owes b p 0 99;".repeat(19) + "owes p b 0 1;".repeat(21));
        x.give(0, 1);
        x.give(1, 2);
        due("18: all LINES together", x.debt(0, 1), 1881);
        due("18: all LINES back", x.debt(1, 0), 21);
        due("19: what is left", x.net(0, 1), 1860);
        due("20: what need not be paid", x.rings(), 42);
    }

    private static void debtsUpToNow() {
        GateNames x = Check.with("man a;man b;comes a 0 1 1;comes b 0 2 2;comes a 29 1 1;comes b 29 1 1;"
                + "owes b a 0 3;owes b a 29 4;");
        x.give(0, 1);
        x.give(1, 0);
        for (int day = 1; day < 30; day++) {
            x.dawn();
        }
        due("18: of DAY 0", x.debt(0, 1), 3);
        x.drawn(1);
        due("18: of DAY 29, too", x.debt(0, 1), 7);
    }

    private static void debtOfNone() {
        GateNames x = Check.with(TOWN);
        due("18: to himself", x.debt(0, 0), 0);
        due("19: to himself", x.net(0, 0), 0);
        due("18: the last one", x.debt(2, 2), 0);
        int[][] pairs = {{3, 0}, {0, 3}, {-1, 0}, {0, -1}, {3, 3}};
        for (int[] two : pairs) {
            due("18: no such ones", x.debt(two[0], two[1]), -1);
            due("19: no such ones", x.net(two[0], two[1]), -1);
        }
        for (int none : NO_SUCH) {
            due("18: no such one", x.debt(none, 0), -1);
            due("18: no such one", x.debt(0, none), -1);
            due("19: no such one", x.net(none, 0), -1);
            due("19: no such one", x.net(0, none), -1);
        }
        due("18: of an empty TOWN", new GateNames().debt(0, 0), -1);
    }

    private static void netZeroAtLeast() {
        GateNames x = Check.with("man a;man b;comes a 0 1 1;comes b 0 2 2;comes a 1 1 1;comes b 1 2 2;"
                + "owes a b 0 9;owes b a 0 5;owes b a 1 4;");
        x.give(0, 1);
        x.give(1, 0);
        due("19: a is owed more", x.net(0, 1), 0);
        due("19: b owes it", x.net(1, 0), 4);
        x.dawn();
        x.give(0, 1);
        x.give(1, 0);
        due("19: nothing is left", x.net(1, 0), 0);
        due("19: nothing is left", x.net(0, 1), 0);
        due("18: yet both owe", x.debt(1, 0), 9);
    }

    private static void ringsOfNothing() {
        due("20: of an empty TOWN", new GateNames().rings(), 0);
        GateNames x = Check.with("man a;man b;comes a 0 1 1;comes b 0 2 2;owes b a 0 5;owes b a 1 5;");
        due("20: nothing given", x.rings(), 0);
        x.give(0, 1);
        due("20: one given", x.rings(), 0);
        x.give(1, 0);
        due("20: one DEBT", x.rings(), 0);
        due("18: one DEBT", x.debt(0, 1), 5);
    }

    private static void ringsOfThree() {
        String men = "man a;man b;man c;name p;name q;name r;comes a 0 1 1;comes b 0 2 2;comes c 0 3 3;";
        GateNames x = Check.with(men + "owes p q 0 8;owes q r 0 8;owes r p 0 8;");
        x.give(0, 3);
        x.give(1, 4);
        due("20: not yet a ring", x.rings(), 0);
        x.give(2, 5);
        due("20: all of it", x.rings(), 24);
        Check.town(x, men + "owes p q 0 8;owes q r 0 8;owes r p 0 7;");
        x.give(0, 3);
        x.give(1, 4);
        x.give(2, 5);
        due("20: all but the one that a owes b and c", x.rings(), 22);
    }

    private static void ringsOfAChain() {
        GateNames x = Check.with("man a;man b;man c;name p;name q;name r;comes a 0 1 1;comes b 0 2 2;"
                + "comes c 0 3 3;owes p q 0 10;owes q r 0 4;");
        x.give(0, 3);
        x.give(1, 4);
        x.give(2, 5);
        due("20: b need not pay what a can", x.rings(), 4);
        x.back();
        due("20: c has none", x.rings(), 0);
    }

    // ---- promises 21 to 23: MATCHED, WANT

    private static void matchedOfNone() {
        GateNames x = Check.with(TOWN);
        x.matched(0, -1, 0);
        Check.dueThrow("21: DAY 30", () -> x.matched(30, -1, 0));
        Check.dueThrow("21: DAY -1", () -> x.matched(-1, -1, 0));
        Check.dueThrow("21: what 2", () -> x.matched(0, -1, 2));
        Check.dueThrow("21: what -1", () -> x.matched(0, -1, -1));
        Check.dueThrow("21: purse 4", () -> x.matched(0, 4, 0));
        Check.dueThrow("21: purse -2", () -> x.matched(0, -2, 0));
        for (int none : NO_SUCH) {
            Check.dueThrow("21: no such DAY", () -> x.matched(none, -1, 0));
            Check.dueThrow("21: no such purse", () -> x.matched(0, none, 0));
            Check.dueThrow("21: no such what", () -> x.matched(0, -1, none));
            due("22: no such MAN", x.matchedAs(none), -1);
        }
        due("22: as before", x.matchedAs(0), 1);
        due("22: as before", x.matchedAs(1), 0);
        due("22: as before", x.matchedAs(2), 3);
    }

    private static void matched(GateNames x, int day, int purse, long above, long below) {
        fraction("21: matched(" + day + ", " + purse + ")", x.matched(day, purse, 0), x.matched(day, purse, 1),
                above, below);
    }

    private static void matchedAs(GateNames x, int... names) {
        for (int m = 0; m < 8; m++) {
            due("22: matchedAs(" + m + ")", x.matchedAs(m), m < names.length ? names[m] : -1);
        }
    }

    private static void matchedOfAll() {
        GateNames x = Check.with("man a purse 0;man b;man c purse 3;comes a 0 1 1;comes b 0 1 1;comes c 0 1 1;"
                + "brings a 0 3;brings b 0 2;brings c 0 1;");
        matched(x, 0, -1, 6, 1);
        matchedAs(x, 1, 2, 0);
        matched(x, 0, 0, 2, 1);
        matchedAs(x, 1, -1, -1);
        matched(x, 0, 3, 3, 1);
        matchedAs(x, -1, -1, 0);
    }

    private static void matchedOfAPurse() {
        GateNames x = Check.with("man a purse 0;man b purse 1;man c purse 2;man d purse 3;man e;"
                + "comes a 0 1 1;comes b 0 1 1;comes c 0 1 1;comes d 0 1 1;comes e 0 1 1;comes e 1 1 1;"
                + "brings e 0 1/1 2;brings d 0 1/1 3;");
        for (int purse = 0; purse < 4; purse++) {
            matched(x, 0, purse, 1, 2);
            due("22: he alone", x.matchedAs(purse), 4);
            due("22: not he without a purse", x.matchedAs(4), -1);
        }
        matched(x, 0, -1, 5, 6);
        matched(x, 1, -1, 0, 1);
        due("22: he without a purse", x.matchedAs(4), 0);
        matched(x, 1, 2, 0, 1);
        due("22: he does not come", x.matchedAs(2), -1);
    }

    private static void matchedOfNobody() {
        GateNames x = Check.with(TOWN);
        x.matched(0, -1, 0);
        matched(x, 2, -1, 0, 1);
        matchedAs(x);
        x.matched(0, -1, 0);
        matched(x, 0, 0, 0, 1);
        matchedAs(x);
        matched(new GateNames(), 29, 3, 0, 1);
    }

    private static void matchedNotEach() {
        GateNames x = Check.with("man a;comes a 0 1 1;comes a 1 1 1;");
        Check.dueThrow("21: his own alone", () -> x.matched(0, -1, 0));
        due("22: ahead of any", x.matchedAs(0), -1);
        Check.town(x, "man a;man b;comes a 0 1 1;comes b 0 1 1;brings b 0-9;brings a 0 1;");
        matched(x, 0, -1, -8, 1);
        matchedAs(x, 1, 0);
        Check.town(x, "man a purse 2;comes a 0 1 1;");
        Check.dueThrow("21: his own alone", () -> x.matched(0, 2, 0));
        matchedAs(x, 1, 0);
        matched(x, 0, 1, 0, 1);
        matchedAs(x);
    }

    private static void matchedFirstOfLikeOnes() {
        GateNames x = Check.with(EIGHT + "comes h 0 1 1;comes g 0 2 2;comes f 0 3 3;comes e 0 4 4;"
                + "comes d 0 5 5;comes c 0 6 6;comes b 0 7 7;comes a 0 8 8;");
        matched(x, 0, -1, 0, 1);
        matchedAs(x, 1, 0, 3, 2, 5, 4, 7, 6);
        x = Check.with("man a;man b;man c;comes a 0 1 1;comes b 0 1 1;comes c 0 1 1;");
        matched(x, 0, -1, 0, 1);
        matchedAs(x, 1, 2, 0);
        x = Check.with("man a;man b;name p;name q;comes b 0 1 1;comes a 0 2 2;brings p 0 5;brings q 0 5;"
                + "brings b 0 5;brings a 0 4;");
        matched(x, 0, -1, 10, 1);
        matchedAs(x, 1, 2);
        x = Check.with("name p;name q;man a;man b;comes a 0 1 1;comes b 0 1 1;brings q 0 1;");
        matched(x, 0, -1, 1, 1);
        matchedAs(x, 0, 1);
    }

    private static void matchedBelowZero() {
        GateNames x = Check.with("man a;man b;comes a 0 1 1;comes b 0 1 1;brings a 0-1/1 2;brings b 0-1/1 3;");
        matched(x, 0, -1, -5, 6);
        x = Check.with("man a;name p;comes a 0 1 1;brings p 0-99;brings a 0 99;");
        matched(x, 0, -1, -99, 1);
        matchedAs(x, 1);
    }

    private static void matchedOfEightAndTwelve() {
        StringBuilder text = new StringBuilder(EIGHT + FOUR_MORE);
        for (char c = 'a'; c <= 'h'; c++) {
            text.append("comes ").append(c).append(" 0 1 1;");
        }
        GateNames x = Check.with(text + "brings l 0 9;brings k 0 8;brings j 0 7;brings i 0 6;brings a 0 5;"
                + "brings b 0 4;brings c 0 3;brings d 0 2;brings e 0 1;");
        matched(x, 0, -1, 44, 1);
        matchedAs(x, 1, 0, 3, 2, 8, 9, 10, 11);
        due("23: the ninth comes in", x.want(11, 0, 0), 8);
        due("23: it is not among the eight", x.want(4, 0, 0), 0);
        due("23: the eighth", x.want(3, 0, 0), 1);
    }

    private static void matchedOfEightWithPurses() {
        StringBuilder text = new StringBuilder();
        for (char c = 'a'; c <= 'h'; c++) {
            text.append("man ").append(c).append(" purse ").append((c - 'a') % 4).append(";comes ").append(c);
            text.append(" 0 1 1;brings ").append(c).append(" 0 ").append(1 + c - 'a').append(';');
        }
        GateNames x = Check.with(text + FOUR_MORE);
        matched(x, 0, -1, 36, 1);
        matched(x, 0, 3, 15, 1);
        matchedAs(x, -1, -1, -1, 7, -1, -1, -1, 6);
        matched(x, 0, 0, 15, 1);
        matchedAs(x, 6, -1, -1, -1, 7);
        Check.dueThrow("21: purse 4", () -> x.matched(0, 4, 0));
    }

    private static void matchedAsOfTheLatest() {
        GateNames x = Check.with(TOWN);
        for (int m = -1; m < 9; m++) {
            due("22: ahead of any", x.matchedAs(m), -1);
        }
        x.want(0, 0, 0);
        x.serial(0, 0);
        due("22: want() and serial() are none", x.matchedAs(0), -1);
        x.matched(0, -1, 1);
        due("22: what 1 tells it too", x.matchedAs(0), 1);
        Check.town(x, "man z;");
        due("22: a new TOWN leaves it", x.matchedAs(2), 3);
        x.matched(0, -1, 0);
        due("22: no such one then", x.matchedAs(2), -1);
        due("22: he was none of them", x.matchedAs(0), -1);
    }

    private static void wantOfNone() {
        GateNames x = Check.with(TOWN);
        Check.dueThrow("23: NAME 4", () -> x.want(4, 0, 0));
        Check.dueThrow("23: NAME -1", () -> x.want(-1, 0, 0));
        Check.dueThrow("23: DAY 30", () -> x.want(0, 30, 0));
        Check.dueThrow("23: DAY -1", () -> x.want(0, -1, 0));
        Check.dueThrow("23: what 2", () -> x.want(0, 0, 2));
        Check.dueThrow("23: what -1", () -> x.want(0, 0, -1));
        for (int none : NO_SUCH) {
            Check.dueThrow("23: no such NAME", () -> x.want(none, 0, 0));
            Check.dueThrow("23: no such DAY", () -> x.want(0, none, 0));
            Check.dueThrow("23: no such what", () -> x.want(0, 0, none));
        }
        Check.dueThrow("23: no NAMES", () -> new GateNames().want(0, 0, 0));
    }

    private static void wantWithout() {
        GateNames x = Check.with("man a;man b;name p;comes a 0 1 1;comes b 0 1 1;brings a 0 1/1 2;"
                + "brings b 0 1/1 3;brings p 0 1/1 7;");
        fraction("23: a", x.want(0, 0, 0), x.want(0, 0, 1), 5, 14);
        fraction("23: b", x.want(1, 0, 0), x.want(1, 0, 1), 4, 21);
        fraction("23: p", x.want(2, 0, 0), x.want(2, 0, 1), 0, 1);
        fraction("23: nobody comes", x.want(2, 29, 0), x.want(2, 29, 1), 0, 1);
    }

    private static void wantBelowZero() {
        // without p, b's own NAME would be the only one left for a
        GateNames x = Check.with("man a;man b;name p;comes a 0 1 1;brings p 0-5;brings b 0-9;");
        fraction("23: p is better", x.want(2, 0, 0), x.want(2, 0, 1), 4, 1);
        fraction("23: b is not", x.want(1, 0, 0), x.want(1, 0, 1), 0, 1);
        fraction("23: a's own", x.want(0, 0, 0), x.want(0, 0, 1), 0, 1);
    }

    private static void wantNotEach() {
        GateNames x = Check.with("man a;man b;comes a 0 1 1;comes b 0 1 1;comes a 1 1 1;man c;comes c 2 1 1;");
        fraction("23: two are left for two", x.want(0, 0, 0), x.want(0, 0, 1), 0, 1);
        Check.town(x, "man a;man b;comes a 0 1 1;comes b 0 1 1;comes a 1 1 1;");
        Check.dueThrow("23: one is left for two", () -> x.want(0, 0, 0));
        Check.dueThrow("23: one is left for two", () -> x.want(1, 0, 1));
        Check.dueThrow("23: his own is left", () -> x.want(1, 1, 0));
        fraction("23: another's is left", x.want(0, 1, 0), x.want(0, 1, 1), 0, 1);
        Check.town(x, "man a;comes a 0 1 1;");
        Check.dueThrow("23: not even with it", () -> x.want(0, 0, 0));
    }

    // ---- promises 24 to 26 and 29: SERIAL, ENVY, REST

    private static void serialAs(GateNames x, int... names) {
        for (int m = 0; m < 8; m++) {
            due("25: serialAs(" + m + ")", x.serialAs(m), m < names.length ? names[m] : -1);
        }
    }

    private static void serialInOrder() {
        GateNames x = Check.with("man a;man b;man c;comes a 0 9 9;comes b 0 1 1;comes c 0 1 1;brings a 0 5/1 2;"
                + "brings b 0 9;brings c 0 7/1 3;");
        // b is the first: not his own 9, but a's 5/2; c has b's 9; a has c's 7/3
        fraction("24", x.serial(0, 0), x.serial(0, 1), 83, 6);
        serialAs(x, 2, 0, 1);
        x = Check.with("man a;name p;name q;comes a 0 1 1;brings p 0-3;brings q 0-2;brings a 0 1;");
        fraction("24: below nothing", x.serial(0, 0), x.serial(0, 1), -2, 1);
        serialAs(x, 2);
    }

    private static void serialOfLikeOnes() {
        GateNames x = Check.with(EIGHT + "comes h 0 1 1;comes g 0 2 2;comes a 0 3 3;comes b 0 3 3;");
        fraction("24: all alike", x.serial(0, 0), x.serial(0, 1), 0, 1);
        serialAs(x, 2, 3, -1, -1, -1, -1, 1, 0);
        x = Check.with("man a;name p;name q;comes a 0 1 1;brings p 0 1/2 4;brings q 0 1/1 2;");
        fraction("24: of like ones", x.serial(0, 0), x.serial(0, 1), 1, 2);
        serialAs(x, 1);
    }

    private static void serialNotEach() {
        GateNames x = Check.with("man a;man b;man c;comes a 0 1 1;comes b 0 2 2;comes c 0 3 3;comes a 1 1 1;");
        fraction("24", x.serial(1, 0), x.serial(1, 1), 0, 1);
        serialAs(x, 1);
        Check.dueThrow("24: c finds his own alone", () -> x.serial(0, 0));
        serialAs(x, 1);
        Check.town(x, "man a;comes a 0 1 1;");
        Check.dueThrow("24: his own alone", () -> x.serial(0, 1));
        serialAs(x, 1);
        Check.dueThrow("24: DAY 30", () -> x.serial(30, 0));
        Check.dueThrow("24: DAY -1", () -> x.serial(-1, 0));
        Check.dueThrow("24: what 2", () -> x.serial(2, 2));
        Check.dueThrow("24: what -1", () -> x.serial(2, -1));
        for (int none : NO_SUCH) {
            Check.dueThrow("24: no such DAY", () -> x.serial(none, 0));
            Check.dueThrow("24: no such what", () -> x.serial(2, none));
            due("25: no such MAN", x.serialAs(none), -1);
        }
        serialAs(x, 1);
    }

    private static void serialOfNobody() {
        GateNames x = Check.with(TOWN);
        x.serial(0, 0);
        fraction("24: nobody comes", x.serial(29, 0), x.serial(29, 1), 0, 1);
        serialAs(x);
        fraction("24: of an empty TOWN", new GateNames().serial(0, 0), new GateNames().serial(0, 1), 0, 1);
    }

    private static void serialAsOfTheLatest() {
        GateNames x = Check.with(TOWN);
        for (int m = -1; m < 9; m++) {
            due("25: ahead of any", x.serialAs(m), -1);
        }
        x.matched(0, -1, 0);
        due("25: matched() is none", x.serialAs(0), -1);
        x.serial(0, 1);
        serialAs(x, 3, 0, 1);
        Check.town(x, "man z;man y;comes y 0 1 1;");
        serialAs(x, 3, 0, 1);
        x.serial(0, 0);
        serialAs(x, -1, 0);
    }

    private static void envyOfNobody() {
        GateNames x = Check.with(TOWN);
        due("26: he gave none", x.envies(1), -1);
        x.give(1, 2);
        due("26: nobody else gave one", x.envies(1), 0);
        due("26: he gave none", x.envies(0), -1);
        due("26: MAN 3", x.envies(3), -1);
        due("26: MAN -1", x.envies(-1), -1);
        for (int none : NO_SUCH) {
            due("26: no such one", x.envies(none), -1);
        }
        x.dawn();
        due("26: none on DAY now", x.envies(1), -1);
        due("26: of an empty TOWN", new GateNames().envies(0), -1);
    }

    private static void envyGreaterAlone() {
        GateNames x = Check.with("man a;man b;man c;name p;name q;name r;comes a 0 1 1;comes b 0 2 2;"
                + "comes c 0 3 3;brings p 0 1/1 3;brings q 0 1/1 3;brings r 0 2/1 5;brings p 1 50;");
        x.give(0, 3);
        x.give(1, 4);
        x.give(2, 5);
        due("26: a like one is not greater", x.envies(0), 4);
        due("26: a like one is not greater", x.envies(1), 4);
        due("26: a lesser one", x.envies(2), 0);
    }

    private static void envyNotHisOwn() {
        GateNames x = Check.with("man a;man b;man c;man d;comes a 0 1 1;comes b 0 2 2;comes c 0 3 3;comes d 0 4 4;"
                + "brings a 0 9;brings b 0 5;brings c 0 1;");
        x.give(0, 3);
        x.give(1, 0);
        x.give(2, 1);
        x.give(3, 2);
        due("26: not for b, who has a's own", x.envies(0), 12);
        due("26: b has the greatest", x.envies(1), 0);
        due("26: c for b", x.envies(2), 2);
        due("26: d for both", x.envies(3), 6);
        x = Check.with("man a;man b;name p;comes b 0 1 1;comes a 0 2 2;brings p 0 1;");
        x.give(1, 0);
        x.give(0, 2);
        due("26: for MAN 0", x.envies(1), 1);
    }

    private static int rests(GateNames x, int... prices) {
        Check.feed(x, prices);
        return x.rests();
    }

    private static void restsNotAsTold() {
        GateNames x = Check.with("man a;name p;");
        due("29: a byte for each", rests(x, 0, 0), 1);
        due("29: none", x.rests(), -1);
        due("29: one too few", rests(x, 0), -1);
        due("29: one too many", rests(x, 0, 0, 0), -1);
        due("29: far too many", rests(x, new int[940]), -1);
        due("29: none of none", new GateNames().rests(), 1);
        due("29: one of none", rests(new GateNames(), 0), -1);
        due("29: twelve", rests(Check.with(EIGHT + FOUR_MORE), new int[12]), 1);
        due("29: not eight", rests(Check.with(EIGHT + FOUR_MORE), new int[8]), -1);
    }

    private static void restsOfNobody() {
        GateNames x = Check.with("man a;name p;comes a 0 1 1;brings p 0-5;");
        due("29: nobody gave one", rests(x, 9, 9), 1);
        x.give(0, 1);
        due("29: he gave one", rests(x, 9, 9), 0);
        x.dawn();
        due("29: on DAY now nobody", rests(x, 9, 9), 1);
    }

    private static void restsOfLikeOnes() {
        GateNames x = Check.with("man a;name p;name q;comes a 0 1 1;brings p 0 7;brings q 0 9/1 2;brings q 0 9/1 2;");
        x.give(0, 1);
        due("29: no less", rests(x, 0, 5, 7), 1);
        due("29: less by one", rests(x, 0, 5, 6), 0);
        due("29: less by one", rests(x, 0, 6, 7), 0);
        x = Check.with("man a;name p;name q;comes a 0 1 1;brings p 0 7;brings q 0 15/1 2;");
        x.give(0, 1);
        due("29: less by a half", rests(x, 0, 0, 0), 0);
        due("29: more by a half", rests(x, 0, 0, 1), 1);
    }

    private static void restsByNone() {
        GateNames x = Check.with("man a;name p;comes a 0 1 1;brings p 0 7/1 2;");
        x.give(0, 1);
        due("29: more than 0", rests(x, 0, 3), 1);
        due("29: less than 0", rests(x, 0, 4), 0);
        x = Check.with("man a;name p;comes a 0 1 1;brings p 0 7;");
        x.give(0, 1);
        due("29: 0", rests(x, 0, 7), 1);
        due("29: below 0", rests(x, 0, 8), 0);
    }

    private static void restsButHisOwn() {
        GateNames x = Check.with("man a;man b;comes a 0 1 1;comes b 0 2 2;brings a 0 9;brings b 0 5;");
        x.give(0, 1);
        due("29: his own is more, but his own", rests(x, 0, 0), 1);
        x.give(1, 0);
        due("29: both", rests(x, 0, 0), 1);
        due("29: both", rests(x, 9, 5), 1);
        due("29: the second does not", rests(x, 10, 5), 0);
        due("29: the first does not", rests(x, 9, 6), 0);
        x = Check.with("man a;man b;name p;comes b 0 1 1;comes a 0 2 2;brings a 0 9;brings b 0 9;brings p 0 3;");
        x.give(1, 2);
        due("29: a's is free, though nobody gave it", rests(x, 0, 0, 0), 0);
        due("29: dear enough", rests(x, 6, 0, 0), 1);
    }

    private static void restsOfHighPrices() {
        GateNames x = Check.with("man a;name p;name q;comes a 0 1 1;" + "brings p 0 99;brings q 0 99;".repeat(2)
                + "brings p 0 57;brings q 0 57;");
        x.give(0, 1);
        due("29: 255 of 255", rests(x, 0, 255, 255), 1);
        due("29: 254", rests(x, 0, 255, 254), 0);
        due("29: 128 is more than 127", rests(x, 0, 127, 128), 1);
        due("29: 128 is more than 127", rests(x, 0, 128, 127), 0);
        due("29: 255 is more than 0", rests(x, 0, 255, 0), 0);
        x = Check.with("man a;name p;comes a 0 1 1;brings p 0 99;brings p 0 99;brings p 0 56;");
        x.give(0, 1);
        due("29: 254 are too few", rests(x, 0, 255), 0);
        due("29: 254 are enough", rests(x, 0, 254), 1);
    }

    private static void restsOfEightAndTwelve() {
        GateNames x = Check.with(allCome(FOUR_MORE) + "brings l 0 9;");
        for (int m = 0; m < 8; m++) {
            due("11", x.give(m, 11 - m), 0);
        }
        due("29: all eight", rests(x, 0, 0, 0, 0, 0, 0, 0, 0, 0, 0, 0, 9), 1);
        due("29: all but one rest", rests(x, 0, 0, 0, 0, 0, 0, 0, 0, 0, 0, 0, 10), 0);
        due("29: one alone rests", rests(x, 0, 0, 0, 0, 0, 0, 0, 0, 0, 0, 0, 8), 0);
        due("29: the last one", rests(x, 0, 0, 0, 0, 1, 0, 0, 0, 0, 0, 0, 9), 0);
    }

    // ---- promises 27, 28, 33, 34: who is in town

    private static void inTownBothWithThem() {
        GateNames x = Check.with("man a;man b;man c;comes a 0 0 10;comes b 0 10 10;comes c 0 11 99;comes a 29 99 99;");
        int[][] due = {{0, 1}, {9, 1}, {10, 3}, {11, 4}, {99, 4}};
        for (int[] one : due) {
            due("27: minute " + one[0], x.inTown(0, one[0]), one[1]);
        }
        due("27: ahead of it", x.inTown(29, 98), 0);
        due("27: in it", x.inTown(29, 99), 1);
        due("27: nobody comes", x.inTown(1, 50), 0);
    }

    private static void inTownOfNone() {
        GateNames x = Check.with(EIGHT + "comes h 0 0 99;");
        due("27: the eighth", x.inTown(0, 0), 128);
        due("27: minute 99", x.inTown(0, 99), 128);
        due("27: minute 100", x.inTown(0, 100), -1);
        due("27: minute -1", x.inTown(0, -1), -1);
        due("27: DAY 30", x.inTown(30, 0), -1);
        due("27: DAY -1", x.inTown(-1, 0), -1);
        for (int none : NO_SUCH) {
            due("27: no such minute", x.inTown(0, none), -1);
            due("27: no such DAY", x.inTown(none, 0), -1);
        }
    }

    private static void crowdOfNobody() {
        GateNames x = Check.with(EIGHT);
        due("28: nobody", x.crowd(0, 0), 0);
        due("28: as many in the first minute", x.crowd(0, 1), 0);
        due("28: of an empty TOWN", new GateNames().crowd(29, 1), 0);
    }

    private static void crowdFirstMinute() {
        GateNames x = Check.with("man a;man b;man c;man d;comes a 0 1 5;comes b 0 5 9;comes c 0 9 20;comes d 0 20 20;"
                + "comes a 1 99 99;comes b 2 30 40;comes c 2 10 20;comes a 3 0 99;comes b 3 0 0;comes c 3 99 99;"
                + "comes a 4 0 9;comes b 4 10 19;comes c 4 12 12;comes d 4 19 30;");
        int[][] due = {{2, 5}, {1, 99}, {1, 10}, {2, 0}, {2, 12}};
        for (int day = 0; day < due.length; day++) {
            due("28: the most on DAY " + day, x.crowd(day, 0), due[day][0]);
            due("28: the first minute of DAY " + day, x.crowd(day, 1), due[day][1]);
        }
        StringBuilder text = new StringBuilder(EIGHT);
        for (char c = 'a'; c <= 'h'; c++) {
            text.append("comes ").append(c).append(" 0 ").append(c - 'a').append(" 7;");
        }
        x = Check.with(text.toString());
        due("28: all eight", x.crowd(0, 0), 8);
        due("28: in the seventh minute", x.crowd(0, 1), 7);
    }

    private static void crowdOfNone() {
        GateNames x = Check.with(TOWN);
        due("28: what 2", x.crowd(0, 2), -1);
        due("28: what -1", x.crowd(0, -1), -1);
        due("28: DAY 30", x.crowd(30, 0), -1);
        due("28: DAY -1", x.crowd(-1, 1), -1);
        for (int none : NO_SUCH) {
            due("28: no such what", x.crowd(0, none), -1);
            due("28: no such DAY", x.crowd(none, 0), -1);
        }
    }

    private static void meetsInOneMinute() {
        GateNames x = Check.with("man a;man b;foes b a;comes a 0 10 20;comes b 0 20 30;comes a 1 10 20;comes b 1 21 30;"
                + "comes a 2 10 20;comes b 2 0 10;comes a 3 10 20;comes b 3 0 9;comes a 4 5 5;comes b 4 5 5;"
                + "comes a 5 0 99;comes b 5 50 50;comes a 6 50 50;comes b 6 0 99;comes a 7 1 1;");
        int[] due = {1, 0, 1, 0, 1, 1, 1, 0, 0};
        for (int day = 0; day < due.length; day++) {
            due("33: how many on DAY " + day, x.meets(day, -1), due[day]);
            due("33: who on DAY " + day, x.meets(day, 0), due[day] == 1 ? 1 : -1);
        }
    }

    private static void meetsOfNone() {
        GateNames x = Check.with(TOWN);
        due("33: who are no foes", x.meets(0, -1), 1);
        due("33: none behind it", x.meets(0, 1), -1);
        due("33: k -2", x.meets(0, -2), -1);
        due("33: DAY 30", x.meets(30, -1), -1);
        due("33: DAY -1", x.meets(-1, -1), -1);
        for (int none : NO_SUCH) {
            due("33: none such", x.meets(0, none), -1);
            due("33: no such DAY", x.meets(none, -1), -1);
        }
        due("33: of an empty TOWN", new GateNames().meets(0, -1), 0);
    }

    private static void meetsOfAll() {
        StringBuilder text = new StringBuilder(EIGHT);
        for (char a = 'h'; a > 'a'; a--) {
            text.append("comes ").append(a).append(" 0 1 1;");
            for (char b = 'a'; b < a; b++) {
                text.append("foes ").append(a).append(' ').append(b).append(';');
            }
        }
        GateNames x = Check.with(text + "comes a 0 1 1;");
        due("33: all 28", x.meets(0, -1), 28);
        int k = 0;
        for (int a = 0; a < 8; a++) {
            for (int b = a + 1; b < 8; b++) {
                due("33: the lesser MAN and the other", x.meets(0, k), 10 * a + b);
                k++;
            }
        }
        due("33: no 29th", x.meets(0, 28), -1);
    }

    private static void laterNobody() {
        GateNames x = Check.with("man a;man b;man c;foes a b;comes a 0 5 10;comes b 0 11 20;comes c 0 0 99;"
                + "comes a 1 0 99;comes b 2 0 99;comes a 3 11 20;comes b 3 5 10;");
        due("34: ahead of him", x.later(0, 0), 0);
        due("34: no foes", x.later(2, 0), 0);
        due("34: his foe does not come", x.later(0, 1), 0);
        due("34: behind him", x.later(0, 3), 0);
        due("34: of an empty DAY", x.later(0, 4), -1);
    }

    private static void laterJustPast() {
        GateNames x = Check.with("man a;man b;man c;foes a b;foes a c;comes a 0 5 10;comes b 0 10 20;"
                + "comes a 1 5 5;comes b 1 5 5;comes a 2 0 3;comes b 2 0 9;comes c 2 14 20;"
                + "comes a 3 0 4;comes b 3 0 9;comes c 3 14 20;comes a 4 10 20;comes b 4 0 10;comes c 4 0 9;");
        due("34: past b", x.later(0, 0), 16);
        due("34: past a", x.later(1, 0), 1);
        due("34: one minute", x.later(0, 1), 1);
        due("34: just between both", x.later(0, 2), 10);
        due("34: not between them: past both", x.later(0, 3), 21);
        due("34: out of the first minute", x.later(0, 4), 1);
    }

    private static void laterBeyondTheDay() {
        GateNames x = Check.with(EIGHT + "foes a b;comes a 0 0 99;comes b 0 0 99;foes a c;comes c 0 50 99;");
        due("34: past the last minute", x.later(0, 0), 100);
        due("34: past the last minute", x.later(1, 0), 100);
        due("34: past the last minute", x.later(2, 0), 50);
        StringBuilder text = new StringBuilder(EIGHT + "comes a 0 0 12;");
        for (char c = 'h'; c > 'a'; c--) {
            int in = 13 * (c - 'b') + 1;
            text.append("foes a ").append(c).append(";comes ").append(c).append(" 0 ").append(in);
            text.append(' ').append(in + 1).append(';');
        }
        x = Check.with(text.toString());
        due("34: past one after another of seven", x.later(0, 0), 13 * 6 + 3);
        due("34: h past a", x.later(7, 0), 0);
        due("34: b past a", x.later(1, 0), 12);
    }

    private static void laterOfNone() {
        GateNames x = Check.with(TOWN);
        due("34: he does not come", x.later(1, 1), -1);
        due("34: MAN 3", x.later(3, 0), -1);
        due("34: MAN -1", x.later(-1, 0), -1);
        due("34: DAY 30", x.later(0, 30), -1);
        due("34: DAY -1", x.later(0, -1), -1);
        for (int none : NO_SUCH) {
            due("34: no such MAN", x.later(none, 0), -1);
            due("34: no such DAY", x.later(0, none), -1);
        }
    }

    // ---- promises 30 to 32: LOT

    private static void lotsOfNobody() {
        due("30: one way for nobody", new GateNames().lots(0), 1);
        due("30: one way for nobody", Check.with(TOWN).lots(29), 1);
    }

    private static void lotsOfNoWay() {
        GateNames x = Check.with("man a;comes a 0 1 1;man b;man c;");
        due("30: two NAMES", x.lots(0), 2);
        x = Check.with("man a;comes a 0 1 1;");
        due("30: his own alone", x.lots(0), 0);
        due("31: his own alone", x.lotsOf(0, 0, 0), 0);
    }

    private static String allCome(String more) {
        StringBuilder text = new StringBuilder(EIGHT + more);
        for (char c = 'a'; c <= 'h'; c++) {
            text.append("comes ").append(c).append(" 0 1 1;");
        }
        return text.toString();
    }

    private static void lotsOfMost() {
        GateNames x = Check.with(allCome(""));
        due("30: eight of eight", x.lots(0), 14833);
        due("31", x.lotsOf(0, 0, 7), 2119);
        due("31: his own", x.lotsOf(0, 7, 7), 0);
        x = Check.with(allCome(FOUR_MORE));
        due("30: eight of twelve", x.lots(0), 10146321);
        long all = 0;
        for (int n = 0; n < 12; n++) {
            all += x.lotsOf(0, 5, n);
        }
        due("31: all that he may have", all, 10146321);
        due("31: nobody's own", x.lotsOf(0, 5, 11), x.lotsOf(0, 5, 8));
    }

    private static void lotsOfNoDay() {
        GateNames x = Check.with(TOWN);
        due("30: DAY 30", x.lots(30), -1);
        due("30: DAY -1", x.lots(-1), -1);
        for (int none : NO_SUCH) {
            due("30: no such DAY", x.lots(none), -1);
            due("31: no such DAY", x.lotsOf(none, 0, 1), -1);
        }
    }

    private static void lotsOfHisOwn() {
        GateNames x = Check.with("man a;man b;man c;name p;comes a 0 1 1;comes b 0 1 1;");
        due("30", x.lots(0), 7);
        due("31: his own", x.lotsOf(0, 0, 0), 0);
        due("31: the other's own", x.lotsOf(0, 0, 1), 3);
        due("31: of one who does not come", x.lotsOf(0, 0, 2), 2);
        due("31: nobody's", x.lotsOf(0, 0, 3), 2);
    }

    private static void lotsOfNone() {
        GateNames x = Check.with(TOWN);
        due("31: he does not come", x.lotsOf(1, 1, 0), -1);
        due("31: MAN 3", x.lotsOf(0, 3, 0), -1);
        due("31: MAN -1", x.lotsOf(0, -1, 0), -1);
        due("31: NAME 4", x.lotsOf(0, 0, 4), -1);
        due("31: NAME -1", x.lotsOf(0, 0, -1), -1);
        due("31: DAY 30", x.lotsOf(30, 0, 0), -1);
        due("31: DAY -1", x.lotsOf(-1, 0, 0), -1);
        for (int none : NO_SUCH) {
            due("31: no such MAN", x.lotsOf(0, none, 0), -1);
            due("31: no such NAME", x.lotsOf(0, 0, none), -1);
        }
    }

    private static void lotMeanOfNoWays() {
        GateNames x = Check.with("man a;comes a 0 1 1;brings a 0 9;");
        Check.dueThrow("32: no ways", () -> x.lotMean(0, 0, 0));
        Check.dueThrow("32: no ways", () -> x.lotMean(0, 0, 1));
        Check.town(x, "man a;man b;comes a 0 1 1;brings a 0 9;brings b 0 9/1 2;");
        fraction("32: one way", x.lotMean(0, 0, 0), x.lotMean(0, 0, 1), 9, 2);
    }

    private static void lotMeanOfNone() {
        GateNames x = Check.with(TOWN);
        Check.dueThrow("32: he does not come", () -> x.lotMean(1, 1, 0));
        Check.dueThrow("32: MAN 3", () -> x.lotMean(0, 3, 0));
        Check.dueThrow("32: MAN -1", () -> x.lotMean(0, -1, 0));
        Check.dueThrow("32: DAY 30", () -> x.lotMean(30, 0, 0));
        Check.dueThrow("32: DAY -1", () -> x.lotMean(-1, 0, 0));
        Check.dueThrow("32: what 2", () -> x.lotMean(0, 0, 2));
        Check.dueThrow("32: what -1", () -> x.lotMean(0, 0, -1));
        for (int none : NO_SUCH) {
            Check.dueThrow("32: no such MAN", () -> x.lotMean(0, none, 0));
            Check.dueThrow("32: no such DAY", () -> x.lotMean(none, 0, 0));
            Check.dueThrow("32: no such what", () -> x.lotMean(0, 0, none));
        }
    }

    private static void lotMeanInLeastTerms() {
        GateNames x = Check.with("man a;man b;name p;comes a 0 1 1;comes b 0 1 1;comes a 1 1 1;comes a 2 1 1;"
                + "brings p 0 1/1 12;brings a 0-1/1 11;brings b 0-5/1 7;brings b 1 4;brings p 1-4;");
        // a: b in 2 of 3 ways, p in 1; b: a in 2 of 3, p in 1
        fraction("32: a", x.lotMean(0, 0, 0), x.lotMean(0, 0, 1), -113, 252);
        fraction("32: b", x.lotMean(0, 1, 0), x.lotMean(0, 1, 1), -13, 396);
        fraction("32: nothing in the mean", x.lotMean(1, 0, 0), x.lotMean(1, 0, 1), 0, 1);
        fraction("32: nothing at all", x.lotMean(2, 0, 0), x.lotMean(2, 0, 1), 0, 1);
        x = Check.with(allCome(FOUR_MORE) + "brings l 0 99;".repeat(36) + "brings k 0 1/1 11;brings k 0 1/1 9;");
        BigInteger all = BigInteger.valueOf(10146321);
        BigInteger ways = BigInteger.valueOf(x.lotsOf(0, 0, 11));
        BigInteger above = ways.multiply(BigInteger.valueOf(99 * 99 * 36 + 20));
        BigInteger below = all.multiply(BigInteger.valueOf(99));
        BigInteger common = above.gcd(below);
        fraction("32: much", x.lotMean(0, 0, 0), x.lotMean(0, 0, 1),
                above.divide(common).longValueExact(), below.divide(common).longValueExact());
    }

    // ---- promises 36 to 40: HOLDS

    /** MEN of EIGHT, each of whom gives the next one's NAME, as many as are told. */
    private static GateNames circle(int men, String more) {
        StringBuilder text = new StringBuilder();
        for (char c = 'a'; c < 'a' + men; c++) {
            text.append("man ").append(c).append(";comes ").append(c).append(" 0 1 1;");
        }
        GateNames x = Check.with(text + more);
        for (int m = 0; m < men; m++) {
            due("11", x.give(m, (m + 1) % men), 0);
        }
        return x;
    }

    private static void holdsOfNone() {
        due("36: one way for nobody", new GateNames().holds(), 1);
        GateNames x = Check.with(TOWN);
        due("36: one way for nobody", x.holds(), 1);
        Check.sights(x, "a is a;");
        due("36: no NAME that is seen was given", x.holds(), 1);
    }

    private static void holdsOfOne() {
        GateNames x = Check.with("man a;man b;name p;comes a 0 1 1;comes b 0 2 2;");
        x.give(0, 2);
        due("36: one way", x.holds(), 1);
        Check.sights(x, "p is b;");
        due("36: b gave none", x.holds(), 0);
        Check.sights(x, "p is a b;");
        due("36: a may", x.holds(), 1);
        Check.sights(x, "p not a;");
        due("36: a may not", x.holds(), 0);
        x.back();
        due("36: it is not given", x.holds(), 1);
        x.give(0, 1);
        Check.sights(x, "");
        x.give(1, 2);
        due("36: b's own must be a's", x.holds(), 1);
    }

    private static void holdsOfEight() {
        GateNames x = circle(8, FOUR_MORE);
        due("36: all eight", x.holds(), 14833);
        due("37: all but himself", x.could(0), 254);
        due("37: all but himself", x.could(7), 127);
        due("38: each of seven", x.look(3), 2119);
        due("39: the first", x.best(), 0);
        x = Check.with(allCome(FOUR_MORE));
        int[] given = {11, 10, 9, 8, 0, 1, 2, 3};
        for (int m = 0; m < 8; m++) {
            x.give(m, given[m]);
        }
        due("36: four NAMES of nobody", x.holds(), 24024);
        due("37: all of them", x.could(11), 255);
        due("37: all but a", x.could(0), 254);
        due("37: not given", x.could(4), -1);
    }

    private static void sightsOfNamesNotGiven() {
        GateNames x = circle(3, "name p;man d;");
        due("36", x.holds(), 2);
        Check.sights(x, "p is a;p is b;p is d;d is d;");
        due("36: NAMES not given", x.holds(), 2);
        Check.sights(x, "p is a;a is b d;");
        due("36: one that was given", x.holds(), 1);
        due("37: d gave none", x.could(0), 2);
        Check.sights(x, "a is d;");
        due("36: d alone might have it", x.holds(), 0);
    }

    private static void couldOfNone() {
        GateNames x = circle(3, "name p;");
        due("37: not given", x.could(3), -1);
        due("38: not given", x.look(3), -1);
        due("37: NAME 4", x.could(4), -1);
        due("38: NAME 4", x.look(4), -1);
        due("37: NAME -1", x.could(-1), -1);
        due("38: NAME -1", x.look(-1), -1);
        for (int none : NO_SUCH) {
            due("37: no such one", x.could(none), -1);
            due("38: no such one", x.look(none), -1);
        }
        for (int n = 31; n < 36; n++) {
            due("37: no such one", x.could(n), -1);
            due("38: no such one", x.look(n), -1);
        }
        x.back();
        due("37: taken back", x.could(0), -1);
        due("38: taken back", x.look(0), -1);
    }

    private static void couldByNoHolds() {
        GateNames x = circle(3, "");
        Check.sights(x, "a is a;");
        due("36: none", x.holds(), 0);
        for (int n = 0; n < 3; n++) {
            due("37: nobody", x.could(n), 0);
            due("38: none left", x.look(n), 0);
            due("40: no HOLDS", x.questions(n), -1);
        }
        due("39: no HOLDS", x.best(), -1);
    }

    private static void lookOfNone() {
        GateNames x = circle(2, "");
        due("38: one may be left", x.look(0), 1);
        due("38: one may be left", x.look(1), 1);
        due("39: the first", x.best(), 0);
        x = circle(4, "");
        Check.sights(x, "a not b;");
        // a has c or d, three ways each; of the others
        due("36", x.holds(), 6);
        due("38: three", x.look(0), 3);
        due("37", x.could(0), 12);
    }

    private static void bestOfNone() {
        due("39: none was given", new GateNames().best(), -1);
        GateNames x = Check.with(TOWN);
        due("39: none was given", x.best(), -1);
        x.give(1, 3);
        due("39: one", x.best(), 3);
        x.dawn();
        due("39: none on DAY now", x.best(), -1);
    }

    private static void bestOfLikeOnes() {
        GateNames x = circle(4, "");
        due("39: all alike", x.best(), 0);
        Check.sights(x, "c is d;");
        due("38: c tells nothing", x.look(2), 3);
        due("38", x.look(0), 2);
        due("38", x.look(1), 2);
        due("38", x.look(3), 1);
        due("39: the least", x.best(), 3);
        Check.sights(x, "d is c;");
        due("38", x.look(2), 1);
        due("39: the least", x.best(), 2);
        Check.sights(x, "a is b;b is a;");
        due("36", x.holds(), 1);
        due("39: of like ones the first", x.best(), 0);
    }

    private static void questionsOfNone() {
        GateNames x = circle(3, "man d;");
        due("40: d gave none", x.questions(3), -1);
        due("40: MAN 4", x.questions(4), -1);
        due("40: MAN -1", x.questions(-1), -1);
        for (int none : NO_SUCH) {
            due("40: no such one", x.questions(none), -1);
        }
        x.back();
        due("40: c gave none", x.questions(2), -1);
        due("40: b gave one", x.questions(1) == -1 ? 1 : 0, 0);
        x.dawn();
        due("40: none on DAY now", x.questions(0), -1);
        due("40: of an empty TOWN", new GateNames().questions(0), -1);
    }

    private static void questionsOfHimWhoIsKnown() {
        GateNames x = circle(2, "");
        due("40: none are asked", x.questions(0), 0);
        due("40: none are asked", x.questions(1), 0);
        x = circle(4, "");
        Check.sights(x, "d is a;");
        due("40: he is seen", x.questions(0), 0);
        due("40: d is asked for no more", x.questions(1), 1);
        Check.sights(x, "d not b c;");
        due("40: none else can have it", x.questions(0), 0);
        x = Check.with("man a;name p;comes a 0 1 1;");
        x.give(0, 1);
        due("40: one alone", x.questions(0), 0);
    }

    private static void questionsOfTheLeastSet() {
        GateNames x = circle(3, "");
        due("40: one of two", x.questions(0), 1);
        due("40: one of two", x.questions(1), 1);
        due("40: one of two", x.questions(2), 1);
        x = circle(4, "");
        due("40: not his own, not the greatest", x.questions(0), 6);
        due("40: not his own, not the greatest", x.questions(1), 5);
        due("40: not his own, not the greatest", x.questions(2), 3);
        due("40: not his own, not the next", x.questions(3), 3);
    }

    private static void questionsOfEight() {
        GateNames x = circle(8, FOUR_MORE);
        int[] due = {126, 125, 123, 119, 111, 95, 63, 63};
        for (int m = 0; m < 8; m++) {
            due("40: six of MAN " + m, x.questions(m), due[m]);
        }
        Check.sights(x, "b is a;");
        due("40: he is seen", x.questions(0), 0);
        Check.sights(x, "b is h;h is g;");
        due("40: seen", x.questions(7), 0);
        due("40: seen", x.questions(6), 0);
        due("40: four of six", x.questions(0), 4 + 8 + 16 + 32);
        x = Check.with(allCome(FOUR_MORE));
        int[] given = {11, 10, 9, 8, 0, 1, 2, 3};
        for (int m = 0; m < 8; m++) {
            x.give(m, given[m]);
        }
        due("40: bits of NAMES, not of places", x.questions(7), 1 + 2 + 4 + 8 + 256 + 512 + 1024);
        due("40: all but his own and the last", x.questions(0), 2 + 4 + 8 + 256 + 512 + 1024);
    }

    private static void guessesOnDayNow() {
        GateNames x = Check.with("man a;man b;name p;comes a 0 1 1;comes b 0 1 1;comes a 1 1 1;");
        x.give(0, 2);
        x.give(1, 0);
        x.dawn();
        x.give(0, 1);
        due("36: of DAY now alone", x.holds(), 1);
        due("37", x.could(1), 1);
        due("37: given on DAY 0 alone", x.could(2), -1);
        due("38", x.look(0), -1);
        due("39", x.best(), 1);
        due("40", x.questions(1), -1);
        due("40", x.questions(0), 0);
    }

    // ---- promise 41: DRAWN

    private static void drawnOfNobody() {
        due("41: of an empty TOWN", new GateNames().drawn(0), 0);
        GateNames x = Check.with(TOWN);
        x.dawn();
        x.dawn();
        due("41: nobody comes", x.drawn(5), 0);
        due("44", x.count(7), 0);
    }

    /** The next of the seeds, by numbers that do not wrap. */
    private static int next(int seed) {
        BigInteger x = BigInteger.valueOf(seed).multiply(BigInteger.valueOf(1103515245));
        return x.add(BigInteger.valueOf(12345)).intValue();
    }

    /** The draw of n by what has become of a seed. */
    private static int draw(int x, int n) {
        return (int) ((x & 0xffffffffL) / 256 % n);
    }

    private static void drawnWraps() {
        int[] seeds = {0, 1, -1, 2, 5, 12345, -12345, Integer.MAX_VALUE, Integer.MIN_VALUE, 0x12345678, 0x7fffff00,
            -256, 255, 256, 1103515245};
        for (int seed : seeds) {
            GateNames x = Check.with(allCome(FOUR_MORE));
            boolean[] gone = new boolean[12];
            int now = seed;
            int given = 0;
            due("41: all eight", x.drawn(seed), 8);
            for (int m = 0; m < 8; m++) {
                int left = 0;
                for (int n = 0; n < 12; n++) {
                    left += gone[n] || n == m ? 0 : 1;
                }
                now = next(now);
                int k = draw(now, left);
                int n = 0;
                for (; gone[n] || n == m || k > 0; n++) {
                    k -= gone[n] || n == m ? 0 : 1;
                }
                gone[n] = true;
                given++;
                due("41: MAN " + m + " by seed " + seed, x.gave(m, 0), n);
            }
            due("44", x.count(7), given);
        }
    }

    private static void drawnOfThoseWhoGaveNone() {
        GateNames x = Check.with("man a;man b;man c;name p;comes a 0 3 3;comes b 0 2 2;comes c 0 1 1;");
        due("11", x.give(2, 3), 0);
        due("41: the other two", x.drawn(77), 2);
        due("12: his stays", x.gave(2, 0), 3);
        // b is the first of them: a or c; then a: b, or c if it is left
        int first = next(77);
        int b = draw(first, 2) == 0 ? 0 : 2;
        due("12: b", x.gave(1, 0), b);
        due("12: a", x.gave(0, 0), b == 0 ? draw(next(first), 2) == 0 ? 1 : 2 : 1);
        due("41: all gave one", x.drawn(77), 0);
        x.dawn();
        due("41: on DAY now nobody comes", x.drawn(77), 0);
    }

    private static void drawnForWhomThereIsNone() {
        GateNames x = Check.with("man a;man b;man c;comes a 0 1 1;comes b 0 2 2;comes c 0 3 3;");
        x.give(0, 1);
        x.give(1, 0);
        due("41: c's own is left", x.drawn(9), 0);
        due("12", x.gave(2, 0), -1);
        x = Check.with("man a;man b;comes a 0 1 1;comes b 0 2 2;man c;comes c 0 3 3;man d;comes d 0 4 4;");
        x.give(0, 1);
        x.give(1, 0);
        x.give(2, 3);
        due("41: c's NAME is left for d", x.drawn(9), 1);
        due("12", x.gave(3, 0), 2);
        x = Check.with("man a;comes a 0 1 1;");
        due("41: his own alone", x.drawn(9), 0);
        due("44", x.count(7), 0);
    }

    private static void drawnOfOne() {
        GateNames x = Check.with("man a;man b;comes a 0 1 1;comes b 0 2 2;");
        for (int seed = -3; seed < 4; seed++) {
            due("41: one each", x.drawn(seed), 2);
            due("12", x.gave(0, 0), 1);
            due("12", x.gave(1, 0), 0);
            x.back();
            due("41: one for b", x.drawn(seed), 1);
            x.back();
            x.back();
        }
    }

    // ---- promises 42 to 44 and what holds for all calls

    private static void imageOfNoPlace() {
        GateNames x = Check.with(TOWN);
        Check.due("42: 0", x.image(0), true);
        Check.due("42: 1", x.image(1), true);
        Check.due("42: 2", x.image(2), false);
        Check.due("42: -1", x.image(-1), false);
        for (int none : NO_SUCH) {
            Check.due("42: no such one", x.image(none), false);
        }
        for (int none = 30; none < 66; none++) {
            Check.due("42: no such one", x.image(none), false);
        }
    }

    private static void restoreOfNoPlace() {
        GateNames x = Check.with(TOWN);
        x.image(0);
        x.image(1);
        Check.due("43: 2", x.restore(2), false);
        Check.due("43: -1", x.restore(-1), false);
        for (int none : NO_SUCH) {
            Check.due("43: no such one", x.restore(none), false);
        }
        for (int none = 30; none < 66; none++) {
            Check.due("43: no such one", x.restore(none), false);
        }
    }

    private static void restoreOfNothing() {
        GateNames x = Check.with(TOWN);
        String before = State.whole(x);
        Check.due("43: nothing is kept there", x.restore(0), false);
        Check.due("43: nothing is kept there", x.restore(1), false);
        State.due("43: nothing", State.whole(x), before);
        x.image(1);
        Check.due("43: nothing is kept there", x.restore(0), false);
        Check.due("43: something is kept there", x.restore(1), true);
        x.image(2);
        Check.due("43: still nothing", x.restore(0), false);
        x = new GateNames();
        Check.due("42: an empty TOWN", x.image(0), true);
        Check.town(x, TOWN);
        Check.due("43: an empty TOWN is something", x.restore(0), true);
        due("44", x.count(0), 0);
    }

    private static final String FULL = "man a purse 2;name u;man b purse 0;man c;name v;man d purse 3;foes a c;foes d b;"
            + "comes d 0 4 8;comes a 0 5 9;comes c 0 8 30;comes a 1 1 2;comes b 2 0 99;comes d 2 3 3;comes c 29 7 70;"
            + "brings a 0 7/1 3;brings u 0 50/3 11;brings b 0-9;brings v 1 8;brings d 2 99/11 12;brings c 29 1;"
            + "owes a b 0 6;owes b u 0 9;owes u a 0 3;owes v d 2 70;owes c a 29 1;";

    private static GateNames full() {
        GateNames x = Check.with(FULL);
        due("11", x.give(3, 0), 0);
        due("11", x.give(0, 2), 0);
        due("11", x.give(2, 1), 0);
        x.dawn();
        due("11", x.give(0, 4), 0);
        x.dawn();
        due("11", x.give(1, 4), 0);
        due("11", x.give(3, 2), 0);
        due("35", Check.sights(x, "v is b;b not a;u is a b c d;"), 3);
        return x;
    }

    private static void imageKeepsAll() {
        GateNames x = full();
        String before = State.kept(x);
        Check.due("42", x.image(0), true);
        State.due("42: it changes nothing", State.kept(x), before);
        String[] others = {"", "man z;", EIGHT + FOUR_MORE + "foes a b;comes h 0 1 1;brings l 0 5;owes a b 0 1;",
            "name s;name t;man r purse 1;comes r 29 99 99;brings s 29-1;owes s t 29 9;man q;foes r q;"};
        for (String other : others) {
            Check.town(x, other);
            x.dawn();
            x.dawn();
            x.dawn();
            x.drawn(4);
            Check.sights(x, other.isEmpty() ? "" : "z is z;");
            Check.due("43", x.restore(0), true);
            State.due("43: as kept ahead of <" + other + ">", State.kept(x), before);
            due("35: NAMES as told", Check.sights(x, "a is a;u is b;b is c;c is d;v is a;d is b;"), 6);
            due("35: no others", Check.sights(x, "s is a;"), -1);
            Check.due("43", x.restore(0), true);
        }
        due("16: the latest NAME", x.back(), 0);
        due("12", x.gave(3, 2), -1);
        due("16", x.back(), 0);
        due("16: the DAY ahead", x.back(), 1);
        due("12", x.gave(0, 1), 4);
        due("35: SIGHTS of the TOWN now", Check.sights(x, "v is d;"), 1);
    }

    private static void imageKeepsItself() {
        GateNames x = full();
        x.image(1);
        String before = State.kept(x);
        for (int k = 0; k < 8; k++) {
            x.back();
        }
        Check.sights(x, "a is b;");
        x.drawn(6);
        x.restore(1);
        State.due("43: what is done behind it changes nothing in it", State.kept(x), before);
        x.dawn();
        Check.sights(x, "");
        x.restore(1);
        State.due("43: nor behind a restore()", State.kept(x), before);
        x.back();
        String later = State.kept(x);
        x.image(1);
        Check.town(x, "");
        x.restore(1);
        State.due("42: the latest of one place", State.kept(x), later);
    }

    private static void restoreLeavesTheRest() {
        GateNames x = full();
        x.image(0);
        x.matched(0, -1, 0);
        x.serial(2, 0);
        Check.town(x, "man a purse 9;");
        Check.feed(x, "name b;");
        String latest = State.latest(x);
        Check.due("43", x.restore(0), true);
        State.due("43: the tape and what was told last stay", State.latest(x), latest);
        Check.due("42", x.image(1), true);
        State.due("42: so they do", State.latest(x), latest);
        due("4: the tape is what was fed", x.town(), 1);
        Check.due("43: the image outlasts the TOWN", x.restore(0), true);
        due("44", x.count(1), 6);
    }

    private static void imagesAreTwo() {
        GateNames x = Check.with("name a;");
        x.image(0);
        Check.town(x, "name a;name b;");
        x.image(1);
        Check.town(x, "");
        Check.due("43", x.restore(0), true);
        due("44", x.count(1), 1);
        Check.due("43", x.restore(1), true);
        due("44", x.count(1), 2);
        Check.due("42", x.image(0), true);
        Check.due("43", x.restore(0), true);
        due("44", x.count(1), 2);
        Check.due("43: of one object alone", new GateNames().restore(0), false);
    }

    private static void countOfNone() {
        GateNames x = full();
        Check.feed(x, "abc");
        int[] due = {4, 6, 7, 6, 5, 2, 2, 2, 3, 3};
        for (int what = 0; what < due.length; what++) {
            due("44: " + what, x.count(what), due[what]);
        }
        due("44: 10", x.count(10), -1);
        due("44: -1", x.count(-1), -1);
        for (int none : NO_SUCH) {
            due("44: another what", x.count(none), -1);
        }
    }

    private static void throwsChangeNothing() {
        GateNames x = full();
        x.matched(0, -1, 0);
        x.serial(2, 0);
        Check.sights(x, "q is b;");
        Check.feed(x, "abc");
        String before = State.whole(x);
        Check.dueThrow("6", () -> x.man(8, 0));
        Check.dueThrow("10", () -> x.mean(8, 0, 0));
        Check.dueThrow("17", () -> x.out(4, 0));
        Check.dueThrow("21", () -> x.matched(0, -1, 2));
        Check.dueThrow("21", () -> x.matched(30, -1, 0));
        Check.dueThrow("23", () -> x.want(6, 0, 0));
        Check.dueThrow("24", () -> x.serial(0, 2));
        Check.dueThrow("32", () -> x.lotMean(1, 1, 0));
        State.due("a call that throws changes nothing", State.whole(x), before);
        due("4", Check.town(new GateNames(), ""), 0);
        GateNames y = Check.with("man a;man b;comes a 0 1 1;comes b 0 1 1;comes a 1 1 1;");
        y.matched(1, -1, 0);
        y.serial(1, 0);
        Check.town(y, "man a;comes a 0 1 1;man b;comes b 1 1 1;comes a 1 1 1;");
        Check.town(y, "man a;comes a 0 1 1;comes a 1 1 1;");
        String alone = State.whole(y);
        Check.dueThrow("21: not each", () -> y.matched(0, -1, 0));
        Check.dueThrow("23: not each", () -> y.want(0, 0, 0));
        Check.dueThrow("24: not each", () -> y.serial(0, 0));
        Check.dueThrow("32: no ways", () -> y.lotMean(0, 0, 0));
        State.due("a call that throws changes nothing", State.whole(y), alone);
    }

    private static void refusedCallsChangeNothing() {
        GateNames x = full();
        Check.sights(x, "q is b;");
        Check.feed(x, new int[940]);
        String before = State.whole(x);
        due("2", x.feed(1, 2, 3, 4, 5), -1);
        Check.due("3", x.end(941), false);
        Check.due("3", x.end(-1), false);
        due("11", x.give(0, 0), 1);
        due("11", x.give(9, 0), -1);
        due("41", x.drawn(3), 0);
        Check.due("42", x.image(2), false);
        Check.due("43", x.restore(0), false);
        State.due("a refused call changes nothing", State.whole(x), before);
        GateNames y = Check.with(FULL);
        before = State.whole(y);
        due("16", y.back(), -1);
        State.due("16: NONE changes nothing", State.whole(y), before);
        for (int day = 1; day < 30; day++) {
            y.dawn();
        }
        before = State.whole(y);
        due("15", y.dawn(), -1);
        State.due("15: NONE changes nothing", State.whole(y), before);
        Check.feed(y, 1, 2, 3);
        due("29", y.rests(), -1);
        State.due("29: NONE empties the tape alone", State.whole(y), before);
    }

    /** All calls on TOWNS with as much of one sort as there may be. */
    private static void fullTowns() {
        StringBuilder comes = new StringBuilder(EIGHT);
        StringBuilder foes = new StringBuilder(allCome(FOUR_MORE));
        for (int k = 0; k < 40; k++) {
            comes.append("comes ").append((char) ('a' + k % 8)).append(' ').append(25 + k / 8).append(" 9 9;");
        }
        for (char a = 'b'; a <= 'h'; a++) {
            for (char b = 'a'; b < a; b++) {
                foes.append("foes ").append(a).append(' ').append(b).append(';');
            }
        }
        String[] texts = {comes.toString(), foes.toString(), allCome(FOUR_MORE) + "brings a 0 1;".repeat(40),
            allCome(FOUR_MORE) + "owes a l 0 9;".repeat(40)};
        for (String text : texts) {
            GateNames x = Check.with(text);
            for (int day = 0; day < 30; day++) {
                due("41", x.drawn(day) % 8, 0);
                due("44: all who come gave one", x.count(7), x.comer(day, -1));
                x.dawn();
            }
            Check.sights(x, "a not a b;".repeat(16));
            String before = State.whole(x);
            Check.due("42", x.image(0), true);
            Check.due("43", x.restore(0), true);
            State.due("a full TOWN is kept", State.whole(x), before);
            while (x.back() != -1) {
                due("11: whoever comes first may give one", x.count(7) > 8 ? 1 : 0, 0);
            }
            Check.sights(x, "");
            State.due("all is taken back", State.kept(x), State.kept(Check.with(text)));
        }
    }

    private static void nothingOfOldTowns() {
        String all = EIGHT + "foes a b;foes a c;foes b c;";
        GateNames x = Check.with(all + "comes a 0 50 60;comes b 0 0 99;comes c 0 0 99;brings a 0 9;owes a b 0 9;");
        x.drawn(3);
        for (int k = 0; k < 9; k++) {
            String text = all + "comes a 0 50 60;" + (k % 2 == 0 ? "" : "comes b 1 50 60;");
            Check.town(x, text);
            State.due("nothing of an old TOWN", State.kept(x), State.kept(Check.with(text)));
            due("34: b came in another TOWN", x.later(0, 0), 0);
            due("11: nobody is ahead", x.give(0, 2), 0);
            due("41: he alone", x.drawn(1), 0);
            // one more or less, for there are two rows of each sort
            for (int again = 0; again <= k % 3; again++) {
                Check.town(x, all + "comes c 0 0 99;comes b 0 0 99;comes a 0 50 60;owes b a 0 8;brings b 0 7;");
            }
        }
    }

    private static void askingChangesNothing() {
        GateNames x = full();
        Check.feed(x, "abc");
        String before = State.kept(x);
        String latest = State.latest(x);
        State.due("asking twice", State.kept(x), before);
        State.due("asking tells nothing that stays", State.latest(x), latest);
        x.matched(0, -1, 0);
        x.serial(0, 0);
        State.due("21 and 24 change what 22 and 25 tell alone", State.kept(x), before);
        due("44: not the tape", x.count(9), 3);
    }

    /** The dearest calls, as often as an object is used. */
    private static void usedFor512Calls() {
        GateNames x = circle(8, FOUR_MORE);
        int left = 512 - 50;
        for (int call = 0; call < left; call += 5) {
            due("40", x.questions(call % 8), call % 8 >= 6 ? 63 : 126 - (call % 8 == 0 ? 0 : (1 << call % 8) - 1));
            due("36", x.holds(), 14833);
            due("39", x.best(), 0);
            due("21", x.matched(0, -1, 1), 1);
            due("32", x.lotMean(0, 7, 0), 0);
        }
    }
}
