/** The edges of promises 1 (a new object), 5 (told), 6 (flag), 7 (signal), 8 (line), 9 (needs). */
public final class AskedEdgesTest {
    private static final int NONE = Edges.NONE, UNKNOWN = Edges.UNKNOWN, OUTSIDE = Edges.OUTSIDE, NOT = Edges.NOT;
    private static final int FAR = Edges.FAR, LOW = Edges.LOW;
    private static final int[] ODD = {LOW, -2, -1, 10, 31, 32, FAR};

    private static void due(String what, int got, int want) {
        Edges.due(what, got, want);
    }

    private static FlagSignals ship(String text) {
        return Edges.ship(text);
    }

    // ---- promise 1: "No SHIP."

    static void promise1TheConstants() {
        due("NONE", FlagSignals.NONE, -1);
        due("UNKNOWN", FlagSignals.UNKNOWN, -1000000001);
        due("OUTSIDE", FlagSignals.OUTSIDE, -1000000002);
        due("NOT", FlagSignals.NOT, -1000000003);
        due("FULL", FlagSignals.FULL, -1000000004);
    }

    static void promise1WhatIsTold() {
        FlagSignals x = new FlagSignals();
        int[] told = {0, 0, 0, 0, 0, 0, 0, 0, 0, 0, 0, 0, 0, 0, NONE, NONE, 0, 6, 63, NONE, 0, 0};
        for (int what = 0; what < told.length; what++) due("told(" + what + ")", x.told(what), told[what]);
        due("told(-1)", x.told(-1), OUTSIDE);
        due("told(22)", x.told(22), OUTSIDE);
    }

    static void promise1NoFlagIsKnown() {
        FlagSignals x = new FlagSignals();
        for (int f = -1; f <= 10; f++) {
            for (int what = -1; what <= 7; what++) due("flag(" + f + ", " + what + ")", x.flag(f, what), UNKNOWN);
            due("sew(" + f + ")", x.sew(f), UNKNOWN);
            due("anew(" + f + ")", x.anew(f, 0, 0, 0), UNKNOWN);
            due("anew(" + f + ") out of bounds", x.anew(f, 4, 5, 5), UNKNOWN);
            due("look(" + f + ")", x.look(f, 0, true), UNKNOWN);
            due("look(" + f + ") out of bounds", x.look(f, 3, false), UNKNOWN);
        }
    }

    static void promise1NoSignalIsKnown() {
        FlagSignals x = new FlagSignals();
        for (int e = -1; e <= 10; e++) {
            for (int what = -1; what <= 7; what++) due("signal(" + e + ", " + what + ")", x.signal(e, what), UNKNOWN);
            for (int i = 0; i <= 5; i++) due("needs(" + e + ", " + i + ")", x.needs(e, i), UNKNOWN);
            due("read(" + e + ")", x.read(e, e), UNKNOWN);
        }
    }

    static void promise1NoLineIsKnown() {
        FlagSignals x = new FlagSignals();
        for (int h = -1; h <= 3; h++) {
            for (int what = -1; what <= 5; what++) due("line(" + h + ", " + what + ")", x.line(h, what), UNKNOWN);
            due("hoist(" + h + ")", x.hoist(h, 0), UNKNOWN);
            due("haul(" + h + ")", x.haul(h), UNKNOWN);
            due("write(" + h + ")", x.write(h, 0), UNKNOWN);
            due("write(" + h + ") of none", x.write(h, NONE), UNKNOWN);
        }
    }

    static void promise1NoDays() {
        FlagSignals x = new FlagSignals();
        due("day(1)", x.day(1), NOT);
        due("day(60)", x.day(60), NOT);
        due("drift(1)", x.drift(1), NOT);
        due("drift(60)", x.drift(60), NOT);
        due("DAYS", x.told(5), 0);
        due("nothing was drawn", x.seed(0), 0);
        due("day(0) is outside first", x.day(0), OUTSIDE);
        due("day(61) is outside first", x.day(61), OUTSIDE);
        due("drift(0) is outside first", x.drift(0), OUTSIDE);
        due("drift(61) is outside first", x.drift(61), OUTSIDE);
    }

    static void promise1NoWeather() {
        FlagSignals x = new FlagSignals();
        for (int haze = 0; haze <= 2; haze++) {
            due("weather(" + haze + ", true)", x.weather(haze, true), NOT);
            due("weather(" + haze + ", false)", x.weather(haze, false), NOT);
        }
        due("weather(-1) is outside first", x.weather(-1, true), OUTSIDE);
        due("weather(3) is outside first", x.weather(3, false), OUTSIDE);
        due("HAZE", x.told(6), 0);
        due("WIND", x.told(7), 0);
    }

    static void promise1EmptySetsAlone() {
        FlagSignals x = new FlagSignals();
        due("together(0)", x.together(0), 1);
        due("turns(0, 0)", x.turns(0, 0), 0);
        due("turns(0, 1)", x.turns(0, 1), NONE);
        due("turns(0, 2)", x.turns(0, 2), OUTSIDE);
        due("turns(0, -1)", x.turns(0, -1), OUTSIDE);
        for (int k = 0; k < 32; k++) {
            due("together of bit " + k, x.together(1 << k), UNKNOWN);
            due("turns of bit " + k, x.turns(1 << k, 0), UNKNOWN);
        }
        due("unknown comes ahead", x.turns(1, 2), UNKNOWN);
    }

    static void promise1NothingToUndoOrToGoBackTo() {
        FlagSignals x = new FlagSignals();
        due("undo()", x.undo(), NOT);
        due("goBack(0)", x.goBack(0), NOT);
        due("goBack(1)", x.goBack(1), NOT);
        due("goBack(2)", x.goBack(2), UNKNOWN);
        due("goBack(-1)", x.goBack(-1), UNKNOWN);
    }

    static void promise1ImagesWithoutAShip() {
        FlagSignals x = new FlagSignals();
        due("keep(2)", x.keep(2), UNKNOWN);
        due("keep(-1)", x.keep(-1), UNKNOWN);
        x.seed(5);
        due("keep(0)", x.keep(0), 1);
        x.seed(6);
        due("keep(1)", x.keep(1), 1);
        due("goBack(0)", x.goBack(0), 1);
        due("its seed", x.seed(0), 5);
        due("goBack(1)", x.goBack(1), 1);
        due("its seed", x.seed(0), 6);
        due("LINES", x.told(0), 0);
        due("WIND", x.told(7), 0);
        due("undo()", x.undo(), NOT);
        Edges.tell(x, "l1 0;");
        due("gone with a ship", x.goBack(0), NOT);
    }

    static void promise1NothingReadNoBookNoFault() {
        FlagSignals x = new FlagSignals();
        due("fault()", x.fault(), NONE);
        due("judge()", x.judge(), NONE);
        due("tear()", x.tear(), 0);
    }

    static void promise1WhatNeedsNoShip() {
        FlagSignals x = new FlagSignals();
        due("seed(9)", x.seed(9), 0);
        due("seed(-1)", x.seed(-1), OUTSIDE);
        due("clear(1, 50)", x.clear(1, 50), 500000000);
        due("clear(61, 50)", x.clear(61, 50), OUTSIDE);
        due("feed('l')", x.feed('l'), 1);
        due("feed(256)", x.feed(256), OUTSIDE);
    }

    static void promise1AFaultLeavesNoShip() {
        FlagSignals x = new FlagSignals();
        due("ship()", Edges.tell(x, "l3 3;f0 0 0;e0;l"), -13);
        for (int what = 0; what <= 3; what++) due("told(" + what + ")", x.told(what), 0);
        due("day(1)", x.day(1), NOT);
        due("hoist(0, 0)", x.hoist(0, 0), UNKNOWN);
    }

    static void promise1The512thCallStillCounts() {
        FlagSignals x = new FlagSignals();
        String text = "l1 0;f0 0 0;e0;";
        int calls = text.length() + 1;
        Edges.tell(x, text);
        while (calls < 510) {
            due("call " + calls, x.hoist(0, 0), 0);
            due("call " + (calls + 1), x.haul(0), 0);
            calls += 2;
        }
        due("call 511", x.day(60), 0);
        due("call 512", x.told(5), 60);
        due("that were all", calls, 510);
    }

    // ---- promise 5: told

    static void promise5Outside() {
        FlagSignals x = ship("l1 0;");
        due("told(-1)", x.told(-1), OUTSIDE);
        due("told(22)", x.told(22), OUTSIDE);
        due("the lowest", x.told(LOW), OUTSIDE);
        due("the greatest", x.told(FAR), OUTSIDE);
        due("told(256)", x.told(256), OUTSIDE);
    }

    static void promise5Lines0WithoutAShip() {
        due("without", new FlagSignals().told(0), 0);
        for (int h = 1; h <= 3; h++) due("with " + h, ship("l" + h + " 0;").told(0), h);
    }

    static void promise5Substitutes() {
        for (int n = 0; n <= 3; n++) due("with " + n, ship("l1 " + n + ";").told(1), n);
    }

    static void promise5FlagsNoneToTen() {
        for (int n = 0; n <= 10; n++) due("FLAGS", ship("l1 0;" + Edges.many("f0 0 0;", n)).told(2), n);
    }

    static void promise5SignalsNoneToTen() {
        for (int n = 0; n <= 10; n++) due("SIGNALS", ship("l1 0;f0 0 0;" + Edges.many("e0;", n)).told(3), n);
    }

    static void promise5LettersOfTheText() {
        FlagSignals x = new FlagSignals();
        due("none", x.told(4), 0);
        x.feed(0);
        due("one", x.told(4), 1);
        Edges.feed(x, Edges.many(" ", 239));
        due("all", x.told(4), 240);
        x.feed(' ');
        due("no more", x.told(4), 240);
        x.ship();
        due("none again", x.told(4), 0);
    }

    static void promise5Days0AtFirst() {
        FlagSignals x = ship("l1 0;");
        due("at first", x.told(5), 0);
        x.day(1);
        due("one", x.told(5), 1);
        x.day(60);
        x.drift(1);
        due("more", x.told(5), 62);
    }

    static void promise5HazeNoneAtFirst() {
        FlagSignals x = ship("l1 0;");
        due("at first", x.told(6), 0);
        x.weather(2, true);
        due("fog", x.told(6), 2);
    }

    static void promise5WindAtFirst0WithoutAShip() {
        due("without a ship", new FlagSignals().told(7), 0);
        FlagSignals x = ship("l1 0;");
        due("at first", x.told(7), 1);
        x.weather(0, false);
        due("none", x.told(7), 0);
        x.ship();
        due("the ship is gone", x.told(7), 0);
    }

    static void promise5FreeAreAllAtFirst() {
        due("none told", ship("l1 0;").told(8), 0);
        due("ten", ship("l1 0;" + Edges.many("f0 0 0;", 10)).told(8), 1023);
    }

    static void promise5WhatFliesIsNotFree() {
        FlagSignals x = ship("l2 0;" + Edges.many("f0 0 0;", 10) + "e9,0;e4;");
        x.hoist(0, 0);
        due("the first and the last fly", x.told(8), 1023 - 512 - 1);
        x.hoist(1, 1);
        due("another, too", x.told(8), 1023 - 512 - 1 - 16);
        x.haul(0);
        due("FREE again", x.told(8), 1023 - 16);
    }

    static void promise5WhatIsTornIsNotFree() {
        FlagSignals x = ship("l1 0;f0 0 0;f0 1 1;e0;");
        x.hoist(0, 0);
        x.day(5);
        due("torn, and flies", x.told(8), 2);
        due("TORN", x.told(9), 1);
        x.haul(0);
        due("torn, in the locker", x.told(8), 2);
        x.sew(0);
        due("sewn", x.told(8), 3);
        due("none TORN", x.told(9), 0);
    }

    static void promise5TornAreNoneAtFirst() {
        due("at first", ship("l1 0;f0 0 0;").told(9), 0);
    }

    static void promise5CanGoUpLinesNoMatter() {
        FlagSignals x = ship("l1 0;f0 0 0;f0 1 1;e0;e1;e0,1;");
        due("all", x.told(10), 7);
        x.hoist(0, 0);
        due("the only line is in use", x.told(10), 2);
    }

    static void promise5CanGoUpOfWhatIsFree() {
        FlagSignals x = ship("l2 1;f0 0 0;f0 1 1;f0 2 2;e0,0;e1,1;e1;e2;");
        x.hoist(0, 0);
        due("SUBSTITUTE 1 flies", x.told(10), 4 + 8);
        x.haul(0);
        due("all again", x.told(10), 15);
        due("none told", ship("l1 0;f0 0 0;").told(10), 0);
        due("without a SUBSTITUTE", ship("l1 0;f0 0 0;e0,0;e0;").told(10), 2);
    }

    static void promise5ClearNow() {
        due("none told", ship("l1 0;f0 0 0;").told(11), 0);
        due("twins", ship("l1 0;f0 0 0;e0;e0;").told(11), 0);
        due("all ten", ship("l1 3;f0 0 0;f0 1 1;e0;e1;e0,1;e1,0;e0,0;e1,1;e0,0,0;e1,1,1;e0,0,0,0;e1,1,1,1;").told(11), 1023);
        due("what cannot go up is not clear", ship("l1 0;f0 0 0;e0,0;e0;").told(11), 2);
        due("nor does it make others unclear", ship("l1 0;f0 0 0;f0 0 0;e0,0;e1,1;e0,1;").told(11), 4);
    }

    static void promise5ClearThoughItFlies() {
        FlagSignals x = ship("l2 0;f0 0 0;f0 1 1;e0;e1;");
        x.hoist(0, 0);
        x.hoist(1, 1);
        due("both fly", x.told(11), 3);
    }

    static void promise5ClearestOfLikeOnesTheLeast() {
        due("none told", ship("l1 0;f0 0 0;").told(12), 0);
        due("in all alike", ship("l1 0;f0 0 0;e0;").told(12), 0);
        due("in none", ship("l1 0;f0 0 0;e0;e0;").told(12), 0);
        due("two colours that haze makes one", ship("l1 0;f0 0 0;f0 1 1;e0;e1;").told(12), 0);
    }

    static void promise5ClearestWithWind() {
        FlagSignals x = ship("l1 0;f1 0 2;f0 0 0;e0;e1;");
        due("wind parts them", x.told(12), 1);
        x.weather(2, false);
        due("whatever the weather is now", x.told(12), 1);
    }

    static void promise5MostOfLikeOnesTheLeast() {
        due("one line", ship("l1 0;f0 0 0;f0 1 1;e0;e1;").told(13), 1);
        due("two lines", ship("l2 0;f0 0 0;f0 1 1;f0 2 2;e0;e1;e2;").told(13), 3);
        due("not with the same FLAG", ship("l2 0;f0 0 0;f0 1 1;e0;e0,1;e1;").told(13), 5);
        due("not with the same SUBSTITUTE", ship("l2 1;f0 0 0;f0 1 1;e0,0;e1,1;e1;").told(13), 5);
        due("three lines for two", ship("l3 0;f0 0 0;f0 1 1;e0;e1;").told(13), 3);
        due("the last three of ten", ship("l3 0;f0 0 0;f0 1 1;f0 2 2;" + Edges.many("e0,0;", 7) + "e0;e1;e2;").told(13), 128 + 256 + 512);
    }

    static void promise5MostIsEmptyIfNoneCan() {
        due("none told", ship("l3 0;f0 0 0;").told(13), 0);
        due("none can", ship("l3 0;f0 0 0;e0,0;").told(13), 0);
    }

    static void promise5MostOfWhatIsNotTorn() {
        FlagSignals x = ship("l1 0;f0 0 0;f0 1 1;e0;e1;");
        x.hoist(0, 0);
        due("the line is in use", x.told(13), 1);
        x.day(5);
        due("FLAG 0 is torn", x.told(13), 2);
    }

    static void promise5NeededNoneWithoutFlags() {
        due("no flags", ship("l1 0;").told(14), NONE);
    }

    static void promise5NeededOfLikeOnesTheLeast() {
        due("told in none", ship("l1 0;f0 0 0;f0 0 0;").told(14), 0);
        due("told in one each", ship("l1 0;f0 0 0;f0 0 0;f0 0 0;e2;e1;").told(14), 1);
        due("the first is told first", ship("l1 0;f0 0 0;f0 0 0;e0;e1;").told(14), 0);
        due("the last of ten", ship("l1 0;" + Edges.many("f0 0 0;", 10) + "e8;e9;e9;").told(14), 9);
    }

    static void promise5NeededEachCountsOnce() {
        due("four times in one", ship("l1 3;f0 0 0;f0 0 0;e0,0,0,0;e1;e1;").told(14), 1);
        due("also where it is not on top", ship("l1 0;f0 0 0;f0 0 0;e0,1;e1;").told(14), 1);
    }

    static void promise5BetterNone() {
        due("no flags", ship("l1 0;").told(15), NONE);
        due("no signals", ship("l1 0;f0 0 0;").told(15), NONE);
        due("all are clear", ship("l1 0;f0 0 0;f0 1 1;e0;e1;").told(15), NONE);
        due("nothing helps twins", ship("l1 0;f0 0 0;e0;e0;").told(15), NONE);
        due("nothing helps what cannot go up", ship("l1 0;f0 0 0;e0,0;").told(15), NONE);
    }

    static void promise5BetterOfLikeOnesTheLeast() {
        due("the least FLAG, KIND, COLOURS", ship("l1 0;f0 0 0;f0 0 0;e0;e1;").told(15), 10);
        due("another KIND", ship("l1 0;f1 0 0;f1 0 0;e0;e1;").told(15), 0);
        due("B does not show on a plain one", ship("l1 0;f0 4 4;f0 4 4;e0;e1;").told(15), 0);
        // All plain looks are taken: the least halved one is 1 0 0.
        due("KIND 1", ship("l1 0;f0 0 0;f0 0 0;f0 1 1;f0 2 2;f0 3 3;f0 4 4;e0;e1;e2;e3;e4;e5;").told(15), 100);
        due("B counts", ship("l1 0;f0 0 0;f0 0 0;f0 1 1;f0 2 2;f0 3 3;f0 4 4;f1 0 0;e0;e1;e2;e3;e4;e5;e6;").told(15), 101);
    }

    static void promise5BetterByAFurtherFlag() {
        due("FLAG 1", ship("l1 0;f0 3 3;f0 0 0;f0 0 0;e0;e1;e2;").told(15), 1010);
        // FLAG 0 anew makes two clear; FLAG 2 anew makes four clear (as 0 0 0 it would look like FLAG 0).
        due("the most", ship("l1 0;f0 0 0;f0 0 0;f0 2 2;f0 2 2;f0 3 3;e0;e1;e2;e3;e4,2;e4,3;").told(15), 2010);
        FlagSignals x = ship("l1 0;" + Edges.many("f0 0 0;", 10) + "e9;");
        x.hoist(0, 0);
        x.day(5);
        due("the last FLAG alone is torn", x.told(15), 9000);
    }

    static void promise5BetterInTheWeatherNow() {
        FlagSignals x = ship("l1 0;f0 0 0;f0 0 0;e0;e1;");
        x.weather(1, true);
        due("1 is seen as 0 in haze", x.told(15), 20);
        x.weather(2, false);
        due("and in fog", x.told(15), 20);
        x.weather(0, false);
        due("but not here", x.told(15), 10);
    }

    static void promise5BetterWhetherItFliesOrNot() {
        FlagSignals x = ship("l1 0;f0 0 0;f0 0 0;e0;e1;");
        x.hoist(0, 0);
        due("FLAG 0 flies", x.told(15), 10);
    }

    static void promise5BetterMakesATornFlagFree() {
        FlagSignals x = ship("l1 0;f0 0 0;e0;");
        x.hoist(0, 0);
        x.day(4);
        due("not torn yet", x.told(15), NONE);
        x.day(1);
        due("torn, and flies", x.told(15), 0);
        x.haul(0);
        due("torn", x.told(15), 0);
    }

    static void promise5HowMuchWasRead() {
        FlagSignals x = ship("l1 0;f0 0 0;e0;");
        due("nothing", x.told(16), 0);
        for (int i = 0; i < 9; i++) x.read(0, 0);
        due("eight at most", x.told(16), 8);
    }

    static void promise5AllWeathersIfNothingWasRead() {
        FlagSignals x = ship("l1 0;f0 0 0;e0;");
        due("how many", x.told(17), 6);
        due("which", x.told(18), 63);
    }

    static void promise5NoWeatherFits() {
        FlagSignals x = ship("l1 0;f0 0 0;f0 2 2;e0;e1;");
        x.read(0, 1);
        due("how many", x.told(17), 0);
        due("which", x.told(18), 0);
        due("ASK", x.told(19), NONE);
    }

    static void promise5OneWeatherFits() {
        // Halved over crossed is read for plain over plain: fog, and no wind.
        FlagSignals x = ship("l1 0;f1 0 2;f2 0 2;f0 0 0;f0 0 0;e0,1;e2,3;");
        x.read(0, 1);
        due("how many", x.told(17), 1);
        due("which", x.told(18), 16);
        due("ASK", x.told(19), NONE);
    }

    static void promise5AskTheGreatestPartIsLeast() {
        // Parts of the six: SIGNAL 0 (halved) 2, 3, 1; SIGNAL 1 (crossed) 4, 1, 1; SIGNAL 2 (plain) 2, 2, 1, 1.
        FlagSignals x = ship("l1 0;f1 0 2;f2 0 2;f0 0 0;e0;e1;e2;");
        due("the plain one", x.told(19), 2);
    }

    static void promise5AskOfLikeOnesTheLeast() {
        FlagSignals x = ship("l1 0;f1 0 2;f2 0 2;f0 0 0;e0;e1;e2;");
        x.read(2, 0);
        due("no wind", x.told(18), 1 + 4 + 16);
        due("each of them parts fog from the rest", x.told(19), 0);
        due("two alike", ship("l1 0;f0 3 3;f1 0 2;f0 0 0;e0;e1;e2;").told(19), 1);
    }

    static void promise5AskNoneIfNonePartsThem() {
        due("no signals", ship("l1 0;f0 0 0;").told(19), NONE);
        due("one that is always alone", ship("l1 0;f0 0 0;e0;").told(19), NONE);
        due("twins are always twins", ship("l1 0;f0 0 0;e0;e0;").told(19), NONE);
        due("what cannot go up", ship("l1 0;f1 0 0;e0,0;e0,0;").told(19), NONE);
        FlagSignals x = ship("l1 0;f1 0 2;f0 0 0;e0;e1;");
        x.read(0, 0);
        due("all six", x.told(19), 0);
        x.read(0, 1);
        due("in the three without wind they are alike", x.told(19), NONE);
    }

    static void promise5EntriesOfTheBook() {
        FlagSignals x = ship("l1 0;");
        due("none", x.told(20), 0);
        for (int i = 0; i < 16; i++) x.write(0, NONE);
        due("fifteen at most", x.told(20), 15);
    }

    static void promise5HowManyCanBeUndone() {
        FlagSignals x = ship("l1 0;");
        for (int i = 0; i < 20; i++) {
            due("behind " + i, x.told(21), Math.min(i, 16));
            x.day(1);
        }
    }

    // ---- promise 6: flag

    static void promise6Unknown() {
        FlagSignals x = ship("l1 0;f0 0 0;f0 0 0;");
        for (int f : ODD) due("flag(" + f + ", 0)", x.flag(f, 0), UNKNOWN);
        due("the next", x.flag(2, 0), UNKNOWN);
        due("the last", x.flag(1, 0), 0);
        due("no flags", ship("l1 0;").flag(0, 0), UNKNOWN);
        FlagSignals ten = ship("l1 0;" + Edges.many("f3 2 1;", 10));
        due("the tenth", ten.flag(9, 0), 3);
        due("an eleventh", ten.flag(10, 0), UNKNOWN);
    }

    static void promise6Outside() {
        FlagSignals x = ship("l1 0;f0 0 0;");
        due("flag(0, -1)", x.flag(0, -1), OUTSIDE);
        due("flag(0, 7)", x.flag(0, 7), OUTSIDE);
        due("the lowest", x.flag(0, LOW), OUTSIDE);
        due("the greatest", x.flag(0, FAR), OUTSIDE);
    }

    static void promise6UnknownComesAhead() {
        FlagSignals x = ship("l1 0;f0 0 0;");
        due("flag(1, 7)", x.flag(1, 7), UNKNOWN);
        due("flag(-1, -1)", x.flag(-1, -1), UNKNOWN);
    }

    static void promise6KindAndColoursAsTold() {
        FlagSignals x = ship("l1 0;f0 3 1;f3 4 0;");
        due("KIND", x.flag(0, 0), 0);
        due("A", x.flag(0, 1), 3);
        due("B of a plain one", x.flag(0, 2), 1);
        due("KIND of the next", x.flag(1, 0), 3);
        due("A of the next", x.flag(1, 1), 4);
        due("B of the next", x.flag(1, 2), 0);
    }

    static void promise6WearUpTo5() {
        FlagSignals x = ship("l1 0;f0 0 0;f0 0 0;e0;");
        x.hoist(0, 0);
        for (int d = 0; d <= 8; d++) {
            due("WEAR on day " + d, x.flag(0, 3), Math.min(d, 5));
            due("TORN on day " + d, x.flag(0, 5), d >= 5 ? 1 : 0);
            x.day(1);
        }
        due("what does not fly has none", x.flag(1, 3), 0);
    }

    static void promise6TheLineOrNone() {
        FlagSignals x = ship("l3 1;f0 0 0;f0 0 0;e0,0;e1;");
        due("none", x.flag(0, 4), NONE);
        x.hoist(2, 0);
        x.hoist(0, 1);
        due("LINE 2", x.flag(0, 4), 2);
        due("LINE 0", x.flag(1, 4), 0);
        x.day(5);
        due("torn, it flies on", x.flag(0, 4), 2);
        x.haul(2);
        due("none again", x.flag(0, 4), NONE);
    }

    static void promise6LookNow() {
        FlagSignals x = ship("l1 0;f1 4 1;");
        due("with wind", x.flag(0, 6), 25 + 20 + 1);
        x.weather(0, false);
        due("without", x.flag(0, 6), 20 + 4);
        x.weather(1, true);
        due("in haze", x.flag(0, 6), 25 + 15);
    }

    // ---- promise 7: signal

    static void promise7Unknown() {
        FlagSignals x = ship("l1 0;f0 0 0;e0;e0;");
        for (int e : ODD) due("signal(" + e + ", 0)", x.signal(e, 0), UNKNOWN);
        due("the next", x.signal(2, 0), UNKNOWN);
        due("the last", x.signal(1, 0), 1);
        due("no signals", ship("l1 0;f0 0 0;").signal(0, 0), UNKNOWN);
        FlagSignals ten = ship("l1 0;f0 0 0;" + Edges.many("e0;", 9) + "e0,0;");
        due("the tenth", ten.signal(9, 0), 2);
        due("an eleventh", ten.signal(10, 0), UNKNOWN);
    }

    static void promise7Outside() {
        FlagSignals x = ship("l1 0;f0 0 0;e0;");
        due("signal(0, -1)", x.signal(0, -1), OUTSIDE);
        due("signal(0, 7)", x.signal(0, 7), OUTSIDE);
        due("the lowest", x.signal(0, LOW), OUTSIDE);
        due("the greatest", x.signal(0, FAR), OUTSIDE);
    }

    static void promise7UnknownComesAhead() {
        FlagSignals x = ship("l1 0;f0 0 0;e0;");
        due("signal(1, 7)", x.signal(1, 7), UNKNOWN);
        due("signal(-1, -1)", x.signal(-1, -1), UNKNOWN);
    }

    static void promise7NoneBehindTheLastFlag() {
        FlagSignals x = ship("l1 0;f0 0 0;f0 0 0;e1;e0,1;e1,0,1;e0,0,1,1;");
        int[][] rows = {{1, 1, NONE, NONE, NONE}, {2, 0, 1, NONE, NONE}, {3, 1, 0, 1, NONE}, {4, 0, 0, 1, 1}};
        for (int e = 0; e < 4; e++) {
            for (int what = 0; what <= 4; what++) due("signal(" + e + ", " + what + ")", x.signal(e, what), rows[e][what]);
        }
    }

    static void promise7LikeItselfToo() {
        FlagSignals x = ship("l1 0;f0 0 0;f0 0 0;f0 2 2;e0;e2;e1;");
        due("two alike", x.signal(0, 5), 5);
        due("the other one of them", x.signal(2, 5), 5);
        due("itself alone", x.signal(1, 5), 2);
    }

    static void promise7LikeOfAllTen() {
        FlagSignals x = ship("l1 0;f0 0 0;" + Edges.many("e0;", 10));
        due("the first", x.signal(0, 5), 1023);
        due("the last", x.signal(9, 5), 1023);
    }

    static void promise7LooksLikeNoneNotItself() {
        FlagSignals x = ship("l1 0;f0 0 0;f0 0 0;e0,0;e1,1;e0;e1;");
        due("no SUBSTITUTE", x.signal(0, 5), 0);
        due("nor this one", x.signal(1, 5), 0);
        due("this can", x.signal(2, 5), 12);
        x.hoist(0, 2);
        x.day(5);
        due("torn", x.signal(2, 5), 0);
        due("the other is alone then", x.signal(3, 5), 8);
    }

    static void promise7AsLong() {
        FlagSignals x = ship("l1 1;f0 0 0;e0;e0,0;");
        due("one", x.signal(0, 5), 1);
        due("two", x.signal(1, 5), 2);
    }

    static void promise7PlaceByPlace() {
        FlagSignals x = ship("l1 0;f0 0 0;f0 2 2;f0 0 0;e0,1;e1,0;e2,1;");
        due("the same", x.signal(0, 5), 5);
        due("the other way round", x.signal(1, 5), 2);
        FlagSignals four = ship("l1 0;f0 0 0;f0 1 1;f0 2 2;f0 3 3;f0 4 4;e0,1,2,3;e0,1,2,4;e4,1,2,3;e0,4,2,3;e0,1,4,3;");
        for (int e = 0; e < 5; e++) due("one place is otherwise: " + e, four.signal(e, 5), 1 << e);
    }

    static void promise7ASubstituteLooksLike200AndItsNumber() {
        FlagSignals x = ship("l1 1;f0 0 0;f0 0 0;e0,0;e0,1;e1,1;");
        due("SUBSTITUTE 1 twice", x.signal(0, 5), 1 + 4);
        due("a FLAG that looks like the one above", x.signal(1, 5), 2);
        // Rows 0, 1, SUBSTITUTE 1 and 2, 3, SUBSTITUTE 2, where 0 looks like 2 and 1 like 3.
        FlagSignals y = ship("l1 2;f0 0 0;f0 2 2;f0 0 0;f0 2 2;e0,1,0;e2,3,3;e2,3,2;");
        due("SUBSTITUTE 1 is not 2", y.signal(0, 5), 1 + 4);
        due("SUBSTITUTE 2 is not 1", y.signal(1, 5), 2);
        FlagSignals z = ship("l1 3;f0 0 0;f0 0 0;f0 0 0;e0,1,2,2;e0,1,2,1;e0,1,2,0;e0,2,1,1;");
        due("SUBSTITUTE 3", z.signal(0, 5), 1 + 8);
        due("SUBSTITUTE 2", z.signal(1, 5), 2);
        due("SUBSTITUTE 1", z.signal(2, 5), 4);
    }

    static void promise7LikeWereAllFree() {
        FlagSignals x = ship("l2 1;f0 0 0;f0 0 0;e0,0;e1,1;");
        x.hoist(0, 0);
        due("it flies", x.signal(0, 5), 3);
        due("its SUBSTITUTE flies", x.signal(1, 5), 3);
    }

    static void promise7LikeInTheWeatherNow() {
        FlagSignals x = ship("l1 0;f1 0 2;f0 0 0;e0;e1;");
        due("with wind", x.signal(0, 5), 1);
        x.weather(0, false);
        due("without", x.signal(0, 5), 3);
    }

    static void promise7TheLineWhereItFliesOrNone() {
        FlagSignals x = ship("l3 0;f0 0 0;f0 0 0;e0;e1;");
        due("none", x.signal(0, 6), NONE);
        x.hoist(2, 0);
        due("LINE 2", x.signal(0, 6), 2);
        due("not the other", x.signal(1, 6), NONE);
        x.hoist(0, 1);
        due("LINE 0", x.signal(1, 6), 0);
        x.haul(2);
        due("none again", x.signal(0, 6), NONE);
    }

    // ---- promise 8: line

    static void promise8Unknown() {
        for (int lines = 1; lines <= 3; lines++) {
            FlagSignals x = ship("l" + lines + " 0;");
            for (int h : ODD) due("line(" + h + ", 0)", x.line(h, 0), UNKNOWN);
            due("the next of " + lines, x.line(lines, 0), UNKNOWN);
            due("the last of " + lines, x.line(lines - 1, 0), NONE);
        }
    }

    static void promise8Outside() {
        FlagSignals x = ship("l1 0;");
        due("line(0, -1)", x.line(0, -1), OUTSIDE);
        due("line(0, 5)", x.line(0, 5), OUTSIDE);
        due("the lowest", x.line(0, LOW), OUTSIDE);
        due("the greatest", x.line(0, FAR), OUTSIDE);
    }

    static void promise8UnknownComesAhead() {
        FlagSignals x = ship("l1 0;");
        due("line(1, 5)", x.line(1, 5), UNKNOWN);
        due("line(-1, -1)", x.line(-1, -1), UNKNOWN);
    }

    static void promise8NoneAtFirst() {
        FlagSignals x = ship("l3 3;f0 0 0;e0;");
        for (int h = 0; h < 3; h++) for (int what = 0; what <= 4; what++) due("line(" + h + ", " + what + ")", x.line(h, what), NONE);
    }

    private static void row(FlagSignals x, int h, int... want) {
        for (int what = 0; what <= 4; what++) due("line(" + h + ", " + what + ")", x.line(h, what), want[what]);
    }

    static void promise8AFlagOr20AndTheSubstitute() {
        FlagSignals x = ship("l3 3;f0 0 0;f0 0 0;e0,0,0,0;e1;");
        x.hoist(2, 0);
        x.hoist(1, 1);
        row(x, 0, NONE, NONE, NONE, NONE, NONE);
        row(x, 1, 1, 1, NONE, NONE, NONE);
        row(x, 2, 0, 0, 21, 22, 23);
    }

    static void promise8NoneWhenHauledDown() {
        FlagSignals x = ship("l2 3;f0 0 0;f0 0 0;e0,0,0,0;e1;");
        x.hoist(0, 0);
        x.hoist(1, 1);
        x.haul(0);
        row(x, 0, NONE, NONE, NONE, NONE, NONE);
        row(x, 1, 1, 1, NONE, NONE, NONE);
        x.haul(1);
        x.hoist(0, 1);
        row(x, 0, 1, 1, NONE, NONE, NONE);
    }

    // ---- promise 9: needs; section 2: "A SIGNAL goes up from the top"

    static void promise9Unknown() {
        FlagSignals x = ship("l1 0;f0 0 0;e0;e0;");
        for (int e : ODD) due("needs(" + e + ", 1)", x.needs(e, 1), UNKNOWN);
        due("the next", x.needs(2, 1), UNKNOWN);
        due("the last", x.needs(1, 1), 0);
        due("no signals", ship("l1 0;f0 0 0;").needs(0, 1), UNKNOWN);
    }

    static void promise9Outside() {
        FlagSignals x = ship("l1 3;f0 0 0;e0,0,0,0;");
        due("needs(0, 0)", x.needs(0, 0), OUTSIDE);
        due("needs(0, 5)", x.needs(0, 5), OUTSIDE);
        due("needs(0, -1)", x.needs(0, -1), OUTSIDE);
        due("the lowest", x.needs(0, LOW), OUTSIDE);
        due("the greatest", x.needs(0, FAR), OUTSIDE);
        due("the least place", x.needs(0, 1), 0);
        due("the last place", x.needs(0, 4), 23);
    }

    static void promise9UnknownComesAhead() {
        FlagSignals x = ship("l1 0;f0 0 0;e0;");
        due("needs(1, 0)", x.needs(1, 0), UNKNOWN);
        due("needs(-1, 5)", x.needs(-1, 5), UNKNOWN);
    }

    /** What a SIGNAL of a new ship needs; a row that is not told: it cannot go up. */
    private static void needs(String text, int... row) {
        FlagSignals x = ship(text);
        for (int i = 1; i <= 4; i++) due("needs(0, " + i + ") of '" + text + "'", x.needs(0, i), i <= row.length ? row[i - 1] : NONE);
        due("can go up, '" + text + "'", x.told(10) & 1, row.length > 0 ? 1 : 0);
    }

    static void promise9NotSoLong() {
        needs("l1 3;f0 0 0;e0;", 0);
        needs("l1 3;f0 0 0;f0 0 0;e1,0;", 1, 0);
        needs("l1 3;f0 0 0;f0 0 0;f0 0 0;e1,0,2;", 1, 0, 2);
    }

    static void promise9TheFlagItselfIfNotYetInThisSignal() {
        needs("l1 3;f0 0 0;f0 0 0;e0,1;", 0, 1);
        needs("l1 3;f0 0 0;f0 0 0;e0,0;", 0, 21);
    }

    static void promise9WithoutSubstitutesNoneTwice() {
        needs("l1 0;f0 0 0;e0,0;");
        needs("l1 0;f0 0 0;f0 0 0;f0 0 0;e0,1,2,0;");
    }

    static void promise9SubstituteKRepeatsPlaceK() {
        String flags = "f0 0 0;f0 0 0;f0 0 0;";
        needs("l1 3;" + flags + "e0,1,0;", 0, 1, 21);
        needs("l1 3;" + flags + "e0,1,1;", 0, 1, 22);
        needs("l1 3;" + flags + "e0,1,2,0;", 0, 1, 2, 21);
        needs("l1 3;" + flags + "e0,1,2,1;", 0, 1, 2, 22);
        needs("l1 3;" + flags + "e0,1,2,2;", 0, 1, 2, 23);
        needs("l1 3;" + flags + "e0,1,0,1;", 0, 1, 21, 22);
        needs("l1 3;" + flags + "e0,1,1,0;", 0, 1, 22, 21);
        needs("l1 3;" + flags + "e0,0,1,1;", 0, 21, 1, 23);
    }

    static void promise9TheSubstitutesAreAsManyAsTold() {
        needs("l1 1;f0 0 0;f0 0 0;e0,1,1;");
        needs("l1 2;f0 0 0;f0 0 0;e0,1,1;", 0, 1, 22);
        needs("l1 2;f0 0 0;f0 0 0;f0 0 0;e0,1,2,2;");
        needs("l1 3;f0 0 0;f0 0 0;f0 0 0;e0,1,2,2;", 0, 1, 2, 23);
        needs("l1 2;f0 0 0;e0,0,0,0;");
        needs("l1 3;f0 0 0;e0,0,0,0;", 0, 21, 22, 23);
    }

    static void promise9ASubstituteStandsForWhatItRepeats() {
        needs("l1 2;f0 0 0;e0,0,0;", 0, 21, 22);
        needs("l1 2;f0 0 0;f0 0 0;e0,0,1,0;", 0, 21, 1, 22);
        needs("l1 3;f0 0 0;f0 0 0;e0,1,0,0;", 0, 1, 21, 23);
        needs("l1 3;f0 0 0;f0 0 0;e0,1,1,1;", 0, 1, 22, 23);
    }

    static void promise9ASubstituteIsNotTwiceInASignal() {
        needs("l1 1;f0 0 0;e0,0,0;");
        needs("l1 1;f0 0 0;f0 0 0;e0,1,0,0;");
    }

    static void promise9WhatFliesIsNotThere() {
        FlagSignals x = ship("l3 3;f0 0 0;f0 0 0;f0 0 0;e0;e0,0;e1,0;e1,1;e1;");
        x.hoist(0, 0);
        due("the FLAG at the top", x.needs(1, 1), NONE);
        due("none of it then", x.needs(1, 2), NONE);
        due("a FLAG below the top", x.needs(2, 1), NONE);
        due("another", x.needs(3, 2), 21);
        x.hoist(1, 3);
        due("FLAG and SUBSTITUTE", x.needs(4, 1), NONE);
    }

    static void promise9ASubstituteThatFliesIsNotThere() {
        FlagSignals x = ship("l2 3;f0 0 0;f0 0 0;f0 0 0;e0,0;e1,1;e1,2,2;e1,2,1;");
        x.hoist(0, 0);
        due("SUBSTITUTE 1 flies", x.needs(1, 1), NONE);
        due("SUBSTITUTE 2 does not", x.needs(2, 3), 22);
        due("no other stands for the top", x.needs(3, 3), NONE);
        x.haul(0);
        due("FREE again", x.needs(1, 2), 21);
    }

    static void promise9WhatIsTornIsNotThere() {
        FlagSignals x = ship("l1 1;f0 0 0;f0 0 0;e0;e1,0;e1;");
        x.hoist(0, 0);
        x.day(5);
        x.haul(0);
        due("torn", x.needs(0, 1), NONE);
        due("torn below", x.needs(1, 1), NONE);
        due("whole", x.needs(2, 1), 1);
    }

    static void promise9LinesDoNotMatter() {
        FlagSignals x = ship("l1 0;f0 0 0;f0 0 0;e0;e1;");
        x.hoist(0, 0);
        due("the only line is in use", x.needs(1, 1), 1);
    }

    public static void main(String[] args) throws IllegalAccessException {
        Edges.run(AskedEdgesTest.class, 1, 5, 6, 7, 8, 9);
    }
}
