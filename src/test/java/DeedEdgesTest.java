/** The edges of section 2 and of promises 10 (hoist) to 17 (undo): what is done, by draws too, and undone. */
public final class DeedEdgesTest {
    private static final int NONE = Edges.NONE, UNKNOWN = Edges.UNKNOWN, OUTSIDE = Edges.OUTSIDE, NOT = Edges.NOT, FULL = Edges.FULL;
    private static final int FAR = Edges.FAR, LOW = Edges.LOW;
    private static final int[] ODD = {LOW, -2, -1, 10, 31, 32, FAR};

    private static void due(String what, int got, int want) {
        Edges.due(what, got, want);
    }

    private static FlagSignals ship(String text) {
        return Edges.ship(text);
    }

    /** FLAGS 0 and 1; FLAG 0 is torn, in the locker. */
    private static FlagSignals torn() {
        FlagSignals x = ship("l2 0;f0 0 0;f0 2 2;e0;e1;");
        x.hoist(0, 0);
        x.day(5);
        x.haul(0);
        return x;
    }

    // ---- promise 10: "HOISTED: how many SUBSTITUTES it took. UNKNOWN, NOT: the LINE is in use, it cannot go up."

    static void promise10HowManySubstitutes() {
        due("none", ship("l1 3;f0 0 0;e0;").hoist(0, 0), 0);
        due("one", ship("l1 3;f0 0 0;e0,0;").hoist(0, 0), 1);
        due("two", ship("l1 3;f0 0 0;e0,0,0;").hoist(0, 0), 2);
        due("three", ship("l1 3;f0 0 0;e0,0,0,0;").hoist(0, 0), 3);
        due("the third alone", ship("l1 3;f0 0 0;f0 0 0;f0 0 0;e0,1,2,2;").hoist(0, 0), 1);
    }

    static void promise10UnknownLine() {
        FlagSignals x = ship("l2 0;f0 0 0;e0;");
        for (int h : ODD) due("hoist(" + h + ", 0)", x.hoist(h, 0), UNKNOWN);
        due("the next", x.hoist(2, 0), UNKNOWN);
        due("the last", x.hoist(1, 0), 0);
    }

    static void promise10UnknownSignal() {
        FlagSignals x = ship("l1 0;f0 0 0;f0 0 0;e0;e1;");
        for (int e : ODD) due("hoist(0, " + e + ")", x.hoist(0, e), UNKNOWN);
        due("the next", x.hoist(0, 2), UNKNOWN);
        due("the last", x.hoist(0, 1), 0);
    }

    static void promise10NotIfTheLineIsInUse() {
        FlagSignals x = ship("l2 0;f0 0 0;f0 0 0;e0;e1;");
        x.hoist(0, 0);
        due("another", x.hoist(0, 1), NOT);
        due("the same", x.hoist(0, 0), NOT);
        due("what flies", x.line(0, 0), 0);
        due("the other line", x.hoist(1, 1), 0);
    }

    static void promise10NotIfItsFlagFlies() {
        FlagSignals x = ship("l2 3;f0 0 0;f0 0 0;e0;e0;e1,0;e0,0;");
        x.hoist(0, 0);
        for (int e = 0; e < 4; e++) due("SIGNAL " + e, x.hoist(1, e), NOT);
        due("the line is still empty", x.line(1, 0), NONE);
        due("FREE", x.told(8), 2);
    }

    static void promise10NotIfItsSubstituteFlies() {
        FlagSignals x = ship("l2 1;f0 0 0;f0 0 0;e0,0;e1,1;e1;");
        x.hoist(0, 0);
        due("SUBSTITUTE 1 flies", x.hoist(1, 1), NOT);
        due("without it", x.hoist(1, 2), 0);
    }

    static void promise10NotIfThereIsNoSubstitute() {
        due("N is 0", ship("l1 0;f0 0 0;e0,0;").hoist(0, 0), NOT);
        due("N is 1", ship("l1 1;f0 0 0;e0,0,0;").hoist(0, 0), NOT);
    }

    static void promise10NotIfItsFlagIsTorn() {
        FlagSignals x = torn();
        due("torn", x.hoist(0, 0), NOT);
        due("whole", x.hoist(0, 1), 0);
    }

    static void promise10UnknownComesAheadOfNot() {
        FlagSignals x = ship("l1 0;f0 0 0;e0;e0,0;");
        due("cannot go up, at an unknown line", x.hoist(1, 1), UNKNOWN);
        x.hoist(0, 0);
        due("in use, an unknown signal", x.hoist(0, 2), UNKNOWN);
    }

    static void promise10WhatFliesIsNotInTheLocker() {
        FlagSignals x = ship("l3 3;f0 0 0;f0 0 0;f0 0 0;e0,1,0;e2;");
        x.hoist(1, 0);
        due("FREE", x.told(8), 4);
        due("LINE of 0", x.flag(0, 4), 1);
        due("LINE of 1", x.flag(1, 4), 1);
        due("LINE of 2", x.flag(2, 4), NONE);
    }

    static void promise10AllLinesAtOnce() {
        FlagSignals x = ship("l3 3;f0 0 0;f0 1 1;f0 2 2;f0 3 3;f0 4 4;e0,0;e1,2,2;e3;");
        due("LINE 0", x.hoist(0, 0), 1);
        due("LINE 1", x.hoist(1, 1), 1);
        due("LINE 2", x.hoist(2, 2), 0);
        due("SUBSTITUTE 1", x.line(0, 2), 21);
        due("SUBSTITUTE 2", x.line(1, 3), 22);
        due("FREE", x.told(8), 16);
    }

    // ---- promise 11: "HAULED DOWN: the SIGNAL. UNKNOWN, NOT: the LINE is not in use."

    static void promise11Unknown() {
        FlagSignals x = ship("l2 0;f0 0 0;e0;");
        for (int h : ODD) due("haul(" + h + ")", x.haul(h), UNKNOWN);
        due("the next", x.haul(2), UNKNOWN);
        x.hoist(1, 0);
        due("the last", x.haul(1), 0);
    }

    static void promise11NotIfNotInUse() {
        FlagSignals x = ship("l2 0;f0 0 0;e0;");
        due("at first", x.haul(0), NOT);
        x.hoist(0, 0);
        due("the other", x.haul(1), NOT);
        due("the SIGNAL", x.haul(0), 0);
        due("twice", x.haul(0), NOT);
    }

    static void promise11TheSignal() {
        FlagSignals x = ship("l1 0;f0 0 0;" + Edges.many("e0,0;", 9) + "e0;");
        x.hoist(0, 9);
        due("the tenth", x.haul(0), 9);
    }

    static void promise11AllOfTheLineIsFreeAgain() {
        FlagSignals x = ship("l2 3;f0 0 0;f0 0 0;f0 0 0;e0,0,1,1;e2;");
        x.hoist(0, 0);
        x.hoist(1, 1);
        due("FREE ahead", x.told(8), 0);
        due("haul(0)", x.haul(0), 0);
        due("FREE behind", x.told(8), 3);
        due("the other flies on", x.flag(2, 4), 1);
        due("SUBSTITUTES, too", x.hoist(0, 0), 2);
    }

    static void promise11WhatIsTornByThenStaysSo() {
        FlagSignals x = ship("l1 1;f0 0 0;f0 0 0;e0;e0,1,0;");
        x.hoist(0, 0);
        x.day(3);
        x.haul(0);
        x.hoist(0, 1);
        x.day(2);
        x.haul(0);
        due("FLAG 0 is torn, FLAG 1 is not", x.told(9), 1);
        due("FREE", x.told(8), 2);
        due("WEAR of 0", x.flag(0, 3), 5);
        due("WEAR of 1", x.flag(1, 3), 2);
        due("it does not fly", x.flag(0, 4), NONE);
    }

    static void promise11WearStays() {
        FlagSignals x = ship("l1 0;f0 0 0;e0;");
        x.hoist(0, 0);
        x.day(4);
        x.haul(0);
        x.day(9);
        due("WEAR in the locker", x.flag(0, 3), 4);
        x.hoist(0, 0);
        due("torn on the next day that it flies", x.day(1), 1);
    }

    // ---- promise 12: "n DAYS (1 .. 60): FLAGS that are TORN (a SET). OUTSIDE, NOT: no SHIP; FULL: DAYS are above 9000."

    static void promise12Outside() {
        FlagSignals x = ship("l1 0;");
        due("day(0)", x.day(0), OUTSIDE);
        due("day(-1)", x.day(-1), OUTSIDE);
        due("day(61)", x.day(61), OUTSIDE);
        due("the lowest", x.day(LOW), OUTSIDE);
        due("the greatest", x.day(FAR), OUTSIDE);
        due("DAYS", x.told(5), 0);
    }

    static void promise12OneAndSixty() {
        FlagSignals x = ship("l1 0;");
        due("day(1)", x.day(1), 0);
        due("DAYS", x.told(5), 1);
        due("day(60)", x.day(60), 0);
        due("DAYS", x.told(5), 61);
    }

    static void promise12NotWithoutAShip() {
        due("a new object", new FlagSignals().day(1), NOT);
        FlagSignals x = ship("l1 0;");
        x.ship();
        due("the ship is gone", x.day(60), NOT);
        due("outside comes ahead", x.day(61), OUTSIDE);
    }

    static void promise12TornAt5() {
        FlagSignals x = ship("l1 0;f0 0 0;f0 0 0;e1;");
        x.hoist(0, 0);
        due("four", x.day(4), 0);
        due("five", x.day(1), 2);
        due("at once", torn().told(9), 1);
    }

    static void promise12TornHasNoMoreWear() {
        FlagSignals x = ship("l1 0;f0 0 0;e0;");
        x.hoist(0, 0);
        due("sixty", x.day(60), 1);
        due("WEAR", x.flag(0, 3), 5);
        due("it flies on", x.line(0, 1), 0);
        due("till it is HAULED DOWN", x.haul(0), 0);
    }

    static void promise12AllThatAreTornAlsoInTheLocker() {
        FlagSignals x = torn();
        x.hoist(1, 1);
        due("the first, by the day on which none tears", x.day(1), 1);
        due("both", x.day(4), 3);
    }

    static void promise12SubstitutesDoNotTear() {
        FlagSignals x = ship("l1 3;f0 0 0;f0 0 0;e0,0,0,0;e1,1,1,1;");
        x.hoist(0, 0);
        due("the FLAG alone", x.day(60), 1);
        x.haul(0);
        due("all three", x.hoist(0, 1), 3);
    }

    static void promise12AllTenFlags() {
        FlagSignals x = ship("l3 0;" + Edges.many("f0 0 0;", 10) + "e0,1,2,3;e4,5,6,7;e8,9;");
        for (int h = 0; h < 3; h++) x.hoist(h, h);
        due("day(5)", x.day(5), 1023);
        due("TORN", x.told(9), 1023);
        due("FREE", x.told(8), 0);
    }

    private static FlagSignals days(int sixties) {
        FlagSignals x = ship("l1 0;f0 0 0;e0;");
        for (int i = 0; i < sixties; i++) x.day(60);
        return x;
    }

    static void promise12NotYetFullAt9000() {
        FlagSignals x = days(150);
        due("DAYS", x.told(5), 9000);
        due("one more", x.day(1), 0);
        due("DAYS", x.told(5), 9001);
    }

    static void promise12FullAbove9000() {
        FlagSignals x = days(150);
        x.day(1);
        due("9001", x.day(1), FULL);
        due("DAYS", x.told(5), 9001);
        x.undo();
        due("9000 again", x.day(60), 0);
        due("9060", x.day(60), FULL);
    }

    static void promise12OutsideComesAheadOfFull() {
        FlagSignals x = days(151);
        due("day(0)", x.day(0), OUTSIDE);
        due("day(61)", x.day(61), OUTSIDE);
        due("day(60)", x.day(60), FULL);
    }

    static void promise12OtherDeedsBehindFull() {
        FlagSignals x = days(151);
        due("hoist", x.hoist(0, 0), 0);
        due("weather", x.weather(2, false), 1);
        due("haul", x.haul(0), 0);
    }

    // ---- promise 13: "SEWN: what WEAR was. UNKNOWN, NOT: it flies, is not TORN."

    static void promise13Unknown() {
        FlagSignals x = torn();
        for (int f : ODD) due("sew(" + f + ")", x.sew(f), UNKNOWN);
        due("the next", x.sew(2), UNKNOWN);
    }

    static void promise13WhatWearWas() {
        FlagSignals x = torn();
        due("sew(0)", x.sew(0), 5);
        due("WEAR", x.flag(0, 3), 0);
        due("TORN", x.flag(0, 5), 0);
        due("FREE", x.told(8), 3);
        due("up again", x.hoist(0, 0), 0);
        due("five days again", x.day(4), 0);
        due("till it tears", x.day(1), 1);
    }

    static void promise13NotIfNotTorn() {
        FlagSignals x = torn();
        due("never flown", x.sew(1), NOT);
        x.sew(0);
        due("sewn already", x.sew(0), NOT);
        x.hoist(0, 1);
        x.day(4);
        x.haul(0);
        due("worn, but not torn", x.sew(1), NOT);
        due("WEAR", x.flag(1, 3), 4);
    }

    static void promise13NotIfItFlies() {
        FlagSignals x = ship("l1 0;f0 0 0;e0;");
        x.hoist(0, 0);
        due("whole", x.sew(0), NOT);
        x.day(5);
        due("torn", x.sew(0), NOT);
        x.haul(0);
        due("hauled down", x.sew(0), 5);
    }

    static void promise13TheLastOfTen() {
        FlagSignals x = ship("l1 0;" + Edges.many("f0 0 0;", 10) + "e9;");
        x.hoist(0, 0);
        x.day(5);
        x.haul(0);
        due("sew(9)", x.sew(9), 5);
        due("sew(10)", x.sew(10), UNKNOWN);
    }

    static void promise13TheOthersStayTorn() {
        FlagSignals x = ship("l1 0;f0 0 0;f0 0 0;e0,1;");
        x.hoist(0, 0);
        x.day(5);
        x.haul(0);
        x.sew(1);
        due("TORN", x.told(9), 1);
        due("WEAR of the other", x.flag(0, 3), 5);
    }

    // ---- promise 14: "Sewn anew (K 0 .. 3; A, B 0 .. 4): SIGNALS that are CLEAR then (a SET). UNKNOWN, OUTSIDE, NOT: it flies."

    static void promise14Unknown() {
        FlagSignals x = ship("l1 0;f0 0 0;f0 0 0;");
        for (int f : ODD) due("anew(" + f + ")", x.anew(f, 0, 0, 0), UNKNOWN);
        due("the next", x.anew(2, 0, 0, 0), UNKNOWN);
        due("the last", x.anew(1, 0, 0, 0), 0);
    }

    static void promise14KindOutside() {
        FlagSignals x = ship("l1 0;f0 0 0;");
        due("K -1", x.anew(0, -1, 0, 0), OUTSIDE);
        due("K 4", x.anew(0, 4, 0, 0), OUTSIDE);
        due("K the lowest", x.anew(0, LOW, 0, 0), OUTSIDE);
        due("K the greatest", x.anew(0, FAR, 0, 0), OUTSIDE);
        due("K 3", x.anew(0, 3, 0, 0), 0);
        due("KIND", x.flag(0, 0), 3);
    }

    static void promise14ForeColourOutside() {
        FlagSignals x = ship("l1 0;f0 0 0;");
        due("A -1", x.anew(0, 0, -1, 0), OUTSIDE);
        due("A 5", x.anew(0, 0, 5, 0), OUTSIDE);
        due("A the lowest", x.anew(0, 0, LOW, 0), OUTSIDE);
        due("A the greatest", x.anew(0, 0, FAR, 0), OUTSIDE);
        due("A 4", x.anew(0, 0, 4, 0), 0);
        due("A", x.flag(0, 1), 4);
    }

    static void promise14BackColourOutside() {
        FlagSignals x = ship("l1 0;f0 0 0;");
        due("B -1", x.anew(0, 0, 0, -1), OUTSIDE);
        due("B 5", x.anew(0, 0, 0, 5), OUTSIDE);
        due("B the lowest", x.anew(0, 0, 0, LOW), OUTSIDE);
        due("B the greatest", x.anew(0, 0, 0, FAR), OUTSIDE);
        due("B 4", x.anew(0, 0, 0, 4), 0);
        due("B", x.flag(0, 2), 4);
    }

    static void promise14UnknownComesAheadOfOutside() {
        FlagSignals x = ship("l1 0;f0 0 0;");
        due("anew(1, 4, 5, 5)", x.anew(1, 4, 5, 5), UNKNOWN);
        due("anew(-1, -1, -1, -1)", x.anew(-1, -1, -1, -1), UNKNOWN);
    }

    static void promise14OutsideComesAheadOfNot() {
        FlagSignals x = ship("l1 0;f0 0 0;e0;");
        x.hoist(0, 0);
        due("K", x.anew(0, 4, 0, 0), OUTSIDE);
        due("A", x.anew(0, 0, 5, 0), OUTSIDE);
        due("B", x.anew(0, 0, 0, 5), OUTSIDE);
    }

    static void promise14NotIfItFlies() {
        FlagSignals x = ship("l1 0;f0 0 0;e0;");
        x.hoist(0, 0);
        due("whole", x.anew(0, 1, 1, 1), NOT);
        x.day(5);
        due("torn", x.anew(0, 1, 1, 1), NOT);
        due("KIND", x.flag(0, 0), 0);
        x.haul(0);
        due("hauled down", x.anew(0, 1, 1, 1), 1);
    }

    static void promise14FreeWithoutWear() {
        FlagSignals x = torn();
        due("torn", x.anew(0, 1, 1, 1), 3);
        due("TORN", x.told(9), 0);
        due("FREE", x.told(8), 3);
        due("WEAR", x.flag(0, 3), 0);
        x.hoist(0, 1);
        x.day(4);
        x.haul(0);
        x.anew(1, 2, 2, 2);
        due("WEAR of one that was not torn", x.flag(1, 3), 0);
    }

    static void promise14OfTheSameKindAndColours() {
        FlagSignals x = torn();
        due("as it was, but whole", x.anew(0, 0, 0, 0), 3);
        due("once more", x.anew(0, 0, 0, 0), 3);
        due("TORN", x.told(9), 0);
    }

    static void promise14ClearThenInTheWeatherNow() {
        FlagSignals x = ship("l1 0;f0 0 0;f0 2 2;e0;e1;");
        due("alike", x.anew(1, 0, 0, 4), 0);
        due("not alike", x.anew(1, 0, 1, 1), 3);
        x.weather(1, true);
        due("alike in haze", x.anew(1, 0, 1, 0), 0);
        due("bordered in haze", x.anew(1, 3, 0, 0), 3);
        x.weather(2, true);
        due("bordered in fog", x.anew(1, 3, 0, 0), 0);
    }

    // ---- promise 15: "WEATHER (HAZE 0 .. 2): SIGNALS that are CLEAR then (a SET). OUTSIDE, NOT: no SHIP; it is so."

    static void promise15Outside() {
        FlagSignals x = ship("l1 0;");
        due("-1", x.weather(-1, true), OUTSIDE);
        due("3", x.weather(3, false), OUTSIDE);
        due("the lowest", x.weather(LOW, true), OUTSIDE);
        due("the greatest", x.weather(FAR, false), OUTSIDE);
    }

    static void promise15AllThatThereIs() {
        FlagSignals x = ship("l1 0;f0 0 0;e0;");
        boolean[] winds = {false, true};
        for (int haze = 2; haze >= 0; haze--) {
            for (boolean wind : winds) {
                due("weather(" + haze + ", " + wind + ")", x.weather(haze, wind), 1);
                due("HAZE", x.told(6), haze);
                due("WIND", x.told(7), wind ? 1 : 0);
            }
        }
    }

    static void promise15NotWithoutAShip() {
        due("a new object", new FlagSignals().weather(1, true), NOT);
        due("a new object, no wind", new FlagSignals().weather(0, false), NOT);
        due("outside comes ahead", new FlagSignals().weather(3, true), OUTSIDE);
        FlagSignals x = ship("l1 0;");
        x.ship();
        due("the ship is gone", x.weather(1, true), NOT);
    }

    static void promise15NotIfItIsSo() {
        FlagSignals x = ship("l1 0;");
        due("at first", x.weather(0, true), NOT);
        due("wind alone", x.weather(0, false), 0);
        due("so again", x.weather(0, false), NOT);
        due("haze alone", x.weather(1, false), 0);
        due("so again", x.weather(1, false), NOT);
        due("nothing of these was kept", x.told(21), 2);
    }

    static void promise15ClearThen() {
        // In haze 0 looks like 1; without wind 2 looks like 3; in fog 4 looks like 5.
        FlagSignals x = ship("l1 0;f0 0 0;f0 1 1;f1 2 3;f0 2 2;f2 3 2;f0 3 3;e0;e1;e2;e3;e4;e5;");
        due("no wind", x.weather(0, false), 63 - 4 - 8);
        due("haze", x.weather(1, true), 63 - 1 - 2);
        due("haze, no wind", x.weather(1, false), 63 - 1 - 2 - 4 - 8);
        due("fog", x.weather(2, true), 63 - 1 - 2 - 16 - 32);
        due("fog, no wind", x.weather(2, false), 0);
        due("as at first", x.weather(0, true), 63);
    }

    // ---- promise 16: "n DAYS (1 .. 60) BY DRAWS: FLAGS that are TORN (a SET). OUTSIDE, NOT: no SHIP; FULL: DAYS are above 9000."

    static void promise16Outside() {
        FlagSignals x = ship("l1 0;");
        due("drift(0)", x.drift(0), OUTSIDE);
        due("drift(-1)", x.drift(-1), OUTSIDE);
        due("drift(61)", x.drift(61), OUTSIDE);
        due("the lowest", x.drift(LOW), OUTSIDE);
        due("the greatest", x.drift(FAR), OUTSIDE);
        due("DAYS", x.told(5), 0);
        due("nothing was drawn", x.seed(0), 0);
    }

    static void promise16OneAndSixty() {
        FlagSignals x = ship("l1 0;");
        due("drift(1)", x.drift(1), 0);
        due("DAYS", x.told(5), 1);
        due("drift(60)", x.drift(60), 0);
        due("DAYS", x.told(5), 61);
    }

    static void promise16NotWithoutAShip() {
        FlagSignals x = new FlagSignals();
        due("a new object", x.drift(1), NOT);
        due("outside comes ahead", x.drift(61), OUTSIDE);
        due("nothing was drawn", x.seed(0), 0);
    }

    static void promise16NotYetFullAt9000() {
        FlagSignals x = days(150);
        due("at 9000", x.drift(60), 0);
        due("DAYS", x.told(5), 9060);
    }

    static void promise16FullAbove9000() {
        FlagSignals x = days(150);
        x.day(1);
        x.seed(3);
        due("at 9001", x.drift(1), FULL);
        due("outside comes ahead", x.drift(0), OUTSIDE);
        due("outside comes ahead", x.drift(61), OUTSIDE);
        due("DAYS", x.told(5), 9001);
        due("nothing was drawn", x.seed(0), 3);
    }

    /** One day by draws from the seed by which they are as wanted: n, the draw, n, the draw ... Due are so many draws. */
    private static void driftAsDrawn(FlagSignals x, int draws, int... pairs) {
        int seed = Edges.seedFor(pairs);
        x.seed(seed);
        int days = x.told(5);
        x.drift(1);
        due("DAYS", x.told(5), days + 1);
        due("seed behind " + draws + " draws", x.seed(0), Edges.seedBehind(seed, draws));
    }

    static void promise16TheSeed0AtFirst() {
        FlagSignals x = ship("l1 0;");
        x.drift(1);
        // 12345, / 65536 is 0: HOISTED, but there are no SIGNALS; the DRAW of LINES makes it 1406932606.
        due("two draws", x.seed(0), 1406932606);
    }

    static void promise16HoistedOn0() {
        FlagSignals x = ship("l3 1;f0 0 0;f0 0 0;e0;e1,1;");
        driftAsDrawn(x, 3, 5, 0, 3, 2, 2, 1);
        due("at the LINE that was drawn", x.line(2, 0), 1);
        due("with its SUBSTITUTE", x.line(2, 2), 21);
        due("ahead of the DAY", x.flag(1, 3), 1);
        due("the other lines", x.line(0, 0) + x.line(1, 0), 2 * NONE);
    }

    static void promise16HoistedOn1() {
        FlagSignals x = ship("l2 0;f0 0 0;f0 0 0;e0;e1;");
        driftAsDrawn(x, 3, 5, 1, 2, 0, 2, 0);
        due("what flies", x.line(0, 0), 0);
        due("WEAR", x.flag(0, 3), 1);
    }

    static void promise16NoDrawOfSignalsIfThereAreNone() {
        FlagSignals x = ship("l2 0;f0 0 0;");
        driftAsDrawn(x, 2, 5, 0, 2, 1);
        driftAsDrawn(x, 2, 5, 1, 2, 1);
        due("nothing flies", x.told(8), 1);
    }

    static void promise16NotHoistedIfTheLineIsInUse() {
        FlagSignals x = ship("l2 0;f0 0 0;f0 0 0;e0;e1;");
        x.hoist(1, 0);
        driftAsDrawn(x, 3, 5, 0, 2, 1, 2, 1);
        due("what flies", x.line(1, 0), 0);
        due("the other line", x.line(0, 0), NONE);
        due("FREE", x.told(8), 2);
    }

    static void promise16NotHoistedIfItCannotGoUp() {
        FlagSignals x = ship("l2 0;f0 0 0;f0 0 0;e0;e0,1;");
        x.hoist(1, 0);
        driftAsDrawn(x, 3, 5, 1, 2, 0, 2, 1);
        due("its FLAG flies", x.line(0, 0), NONE);
        due("FREE", x.told(8), 2);
        FlagSignals y = torn();
        driftAsDrawn(y, 3, 5, 0, 2, 0, 2, 0);
        due("its FLAG is torn", y.line(0, 0), NONE);
    }

    static void promise16HauledDownOn2() {
        FlagSignals x = ship("l2 1;f0 0 0;f0 0 0;e0,0;e1;");
        x.hoist(1, 0);
        x.hoist(0, 1);
        driftAsDrawn(x, 2, 5, 2, 2, 1);
        due("LINE 1", x.line(1, 0), NONE);
        due("no WEAR by that DAY", x.flag(0, 3), 0);
        due("SUBSTITUTE 1 is FREE", x.needs(0, 2), 21);
        due("LINE 0 flies on", x.line(0, 0), 1);
        due("and wears", x.flag(1, 3), 1);
    }

    static void promise16NotHauledDownIfNotInUse() {
        FlagSignals x = ship("l2 0;f0 0 0;e0;");
        x.hoist(0, 0);
        driftAsDrawn(x, 2, 5, 2, 2, 1);
        due("the other line", x.line(0, 0), 0);
        due("WEAR", x.flag(0, 3), 1);
    }

    static void promise16WeatherOn3() {
        for (int haze = 0; haze <= 2; haze++) {
            for (int wind = 0; wind <= 1; wind++) {
                FlagSignals x = ship("l2 0;f0 0 0;e0;");
                driftAsDrawn(x, 4, 5, 3, 2, 0, 3, haze, 2, wind);
                due("HAZE", x.told(6), haze);
                due("WIND", x.told(7), wind);
                due("nothing flies", x.told(8), 1);
            }
        }
    }

    static void promise16SewnOn4() {
        FlagSignals x = torn();
        driftAsDrawn(x, 3, 5, 4, 2, 0, 2, 0);
        due("TORN", x.told(9), 0);
        due("WEAR", x.flag(0, 3), 0);
        due("FREE", x.told(8), 3);
    }

    static void promise16NoDrawOfFlagsIfThereAreNone() {
        FlagSignals x = ship("l2 0;");
        driftAsDrawn(x, 2, 5, 4, 2, 0);
    }

    static void promise16NotSewnIfItFlies() {
        FlagSignals x = ship("l1 0;f0 0 0;f0 0 0;e0;");
        x.hoist(0, 0);
        x.day(5);
        driftAsDrawn(x, 3, 5, 4, 1, 0, 2, 0);
        due("TORN", x.told(9), 1);
        due("WEAR", x.flag(0, 3), 5);
    }

    static void promise16NotSewnIfNotTorn() {
        FlagSignals x = torn();
        x.hoist(0, 1);
        x.day(4);
        x.haul(0);
        driftAsDrawn(x, 3, 5, 4, 2, 0, 2, 1);
        due("WEAR stays", x.flag(1, 3), 4);
        due("the other is still TORN", x.told(9), 1);
    }

    static void promise16TornAtTheEnd() {
        FlagSignals x = ship("l1 0;f0 0 0;e0;");
        x.hoist(0, 0);
        x.day(4);
        // A HOIST at a LINE that is in use: the DAY alone is left, and it tears the FLAG.
        x.seed(Edges.seedFor(5, 0));
        due("drift(1)", x.drift(1), 1);
    }

    static void promise16AheadOfEachDay() {
        FlagSignals x = ship("l2 1;f0 0 0;f1 1 2;e0,0;e1;"), y = ship("l2 1;f0 0 0;f1 1 2;e0,0;e1;");
        x.seed(4);
        y.seed(4);
        x.drift(30);
        for (int i = 0; i < 30; i++) y.drift(1);
        Edges.same("thirty at once", Edges.deck(x), Edges.deck(y));
    }

    static void promise16FromTheGreatestSeed() {
        FlagSignals x = ship("l1 0;");
        x.seed(FAR);
        x.drift(1);
        // The greatest stands for -1: 12345 less 1103515245, left over by 2 to the 31, is 1043980748; / 65536 is 15929, of 5: 4.
        due("two draws", x.seed(0), (int) ((1043980748L * 1103515245L + 12345L) % 2147483648L));
    }

    // ---- promise 17: "The latest is undone: how many more can be. NOT: none."

    static void promise17NotIfNone() {
        due("a new object", new FlagSignals().undo(), NOT);
        FlagSignals x = ship("l1 0;");
        due("a new ship", x.undo(), NOT);
        x.day(1);
        due("one", x.undo(), 0);
        due("no more", x.undo(), NOT);
        due("DAYS", x.told(5), 0);
    }

    private static final String SLOOP = "l2 2;f0 0 0;f1 1 2;f0 2 2;e0,0;e1;e2,1,1;";

    /** FLAG 0 is torn, in the locker; FLAG 1 flies at LINE 0. */
    private static FlagSignals sloop() {
        FlagSignals x = ship(SLOOP);
        x.hoist(0, 0);
        x.day(5);
        x.haul(0);
        x.hoist(0, 1);
        x.day(2);
        x.read(1, 2);
        x.write(0, 1);
        return x;
    }

    private static void undone(String what, Edges.Call call) {
        FlagSignals x = sloop();
        String ahead = Edges.deck(x);
        int could = x.told(21);
        int answer = call.on(x);
        due(what + " is done", answer < -1000000000 ? answer : 0, 0);
        due(what + " can be undone", x.told(21), could + 1);
        due(what + " changes something", Edges.deck(x).equals(ahead) ? 0 : 1, 1);
        due(what + " is undone", x.undo(), could);
        Edges.same("the state when " + what + " is undone", Edges.deck(x), ahead);
    }

    static void promise17Hoist() {
        FlagSignals x = ship("l2 2;f0 0 0;e0,0,0;");
        String ahead = Edges.deck(x);
        x.hoist(1, 0);
        due("undo()", x.undo(), 0);
        Edges.same("the state", Edges.deck(x), ahead);
        due("its SUBSTITUTES are FREE", x.hoist(0, 0), 2);
    }

    static void promise17Haul() {
        undone("haul(0)", x -> x.haul(0));
        FlagSignals x = ship("l2 2;f0 0 0;f0 0 0;e0,0,0;e1,1;");
        x.hoist(1, 0);
        x.haul(1);
        x.undo();
        due("its SUBSTITUTES fly again", x.hoist(0, 1), NOT);
    }

    static void promise17Day() {
        undone("day(1)", x -> x.day(1));
        undone("day(60)", x -> x.day(60));
    }

    static void promise17Sew() {
        undone("sew(0)", x -> x.sew(0));
    }

    static void promise17Anew() {
        undone("anew of a whole one", x -> x.anew(2, 3, 4, 1));
        undone("anew of a torn one", x -> x.anew(0, 3, 4, 1));
    }

    static void promise17Weather() {
        undone("weather(2, true)", x -> x.weather(2, true));
        undone("weather(0, false)", x -> x.weather(0, false));
    }

    static void promise17DriftAtOnce() {
        FlagSignals x = sloop();
        String ahead = Edges.deck(x);
        x.drift(60);
        int seed = x.seed(0);
        due("undo()", x.undo(), 5);
        Edges.same("the state", Edges.deck(x), ahead);
        due("THE SEED was drawn", seed == 0 ? 0 : 1, 1);
    }

    /** Ten FLAGS and a SUBSTITUTE at three LINES. */
    private static FlagSignals dressed() {
        FlagSignals x = ship("l3 2;" + Edges.many("f0 0 0;", 10) + "e0,1,2,3;e4,5,6,7;e8,9,9,8;");
        for (int h = 0; h < 3; h++) x.hoist(h, h);
        return x;
    }

    static void promise17AllOfThreeLines() {
        FlagSignals x = dressed();
        for (int h = 0; h < 3; h++) x.haul(h);
        for (int h = 0; h < 3; h++) x.undo();
        int[][] rows = {{0, 0, 1, 2, 3}, {1, 4, 5, 6, 7}, {2, 8, 9, 22, 21}};
        for (int h = 0; h < 3; h++) for (int what = 0; what <= 4; what++) due("line(" + h + ", " + what + ")", x.line(h, what), rows[h][what]);
        due("FREE", x.told(8), 0);
        for (int h = 0; h < 3; h++) due("haul", x.haul(h), h);
        due("FREE", x.told(8), 1023);
        due("SUBSTITUTES are FREE", x.needs(2, 4), 21);
    }

    static void promise17TheSeedStays() {
        FlagSignals x = ship("l1 0;");
        x.seed(5);
        x.drift(1);
        x.undo();
        due("as the draws left it", x.seed(9), Edges.seedBehind(5, 2));
        x.day(1);
        x.seed(8);
        x.undo();
        due("as it was told", x.seed(0), 8);
    }

    static void promise17SixteenAreKept() {
        FlagSignals x = ship("l1 0;");
        for (int i = 0; i < 16; i++) x.day(1);
        for (int i = 15; i >= 0; i--) {
            due("undo()", x.undo(), i);
            due("DAYS", x.told(5), i);
        }
        due("no more", x.undo(), NOT);
    }

    static void promise17TheOldestAreLost() {
        FlagSignals x = ship("l1 0;");
        for (int i = 0; i < 17; i++) x.day(1);
        due("how many", x.told(21), 16);
        for (int i = 15; i >= 0; i--) due("undo()", x.undo(), i);
        due("no more", x.undo(), NOT);
        due("DAYS", x.told(5), 1);
    }

    static void promise17LongBehindTheSixteenth() {
        FlagSignals x = ship("l1 0;");
        for (int i = 0; i < 50; i++) x.day(1);
        for (int i = 15; i >= 6; i--) due("undo()", x.undo(), i);
        due("DAYS", x.told(5), 40);
        for (int i = 0; i < 12; i++) x.day(2);
        // Kept were 34 to 39 days ahead of each, and twelve more came: 34 and 35 are lost.
        due("sixteen again", x.told(21), 16);
        for (int i = 15; i >= 0; i--) due("undo()", x.undo(), i);
        due("the oldest that was kept", x.told(5), 36);
    }

    static void promise17RefusedIsNotKept() {
        FlagSignals x = ship("l1 0;f0 0 0;e0;");
        x.hoist(0, 0);
        x.hoist(0, 0);
        x.hoist(1, 0);
        x.haul(1);
        x.day(0);
        x.day(61);
        x.sew(0);
        x.anew(0, 0, 0, 0);
        x.weather(0, true);
        x.weather(3, true);
        x.drift(0);
        due("one alone", x.told(21), 1);
        due("undo()", x.undo(), 0);
        due("what flies", x.line(0, 0), NONE);
    }

    static void promise17OtherCallsAreNotKept() {
        FlagSignals x = ship("l1 0;f0 0 0;e0;");
        x.feed('l');
        x.read(0, 0);
        x.write(0, 0);
        x.tear();
        x.judge();
        x.seed(4);
        x.look(0, 1, false);
        x.together(1);
        x.turns(1, 0);
        x.clear(1, 1);
        x.told(15);
        due("how many", x.told(21), 0);
        due("undo()", x.undo(), NOT);
    }

    static void promise17WhatWasReadAndTheBookStay() {
        FlagSignals x = ship("l1 0;f0 0 0;e0;");
        x.day(1);
        x.read(0, 0);
        x.write(0, NONE);
        x.feed('l');
        x.undo();
        due("READ", x.told(16), 1);
        due("entries", x.told(20), 1);
        due("letters", x.told(4), 1);
    }

    static void promise17UndoneIsNotDoneAgain() {
        FlagSignals x = ship("l1 0;");
        x.day(1);
        x.day(2);
        x.undo();
        x.day(4);
        due("undo()", x.undo(), 1);
        due("DAYS", x.told(5), 1);
        due("undo()", x.undo(), 0);
        due("DAYS", x.told(5), 0);
    }

    public static void main(String[] args) throws IllegalAccessException {
        Edges.run(DeedEdgesTest.class, 10, 11, 12, 13, 14, 15, 16, 17);
    }
}
