/** The edges of section 3 and of promises 18 (look) to 28 (goBack): what is tried, read, drawn, kept. */
public final class TriedEdgesTest {
    private static final int NONE = Edges.NONE, UNKNOWN = Edges.UNKNOWN, OUTSIDE = Edges.OUTSIDE, NOT = Edges.NOT, FULL = Edges.FULL;
    private static final int FAR = Edges.FAR, LOW = Edges.LOW;
    private static final int[] ODD = {LOW, -2, -1, 10, 31, 32, FAR};

    private static void due(String what, int got, int want) {
        Edges.due(what, got, want);
    }

    private static FlagSignals ship(String text) {
        return Edges.ship(text);
    }

    // ---- promise 18: "LOOK of a FLAG in a WEATHER. UNKNOWN, OUTSIDE."

    static void promise18Unknown() {
        FlagSignals x = ship("l1 0;f0 0 0;f0 0 0;");
        for (int f : ODD) due("look(" + f + ", 0, true)", x.look(f, 0, true), UNKNOWN);
        due("the next", x.look(2, 0, true), UNKNOWN);
        due("the last", x.look(1, 0, true), 0);
        due("no flags", ship("l1 0;").look(0, 0, true), UNKNOWN);
    }

    static void promise18Outside() {
        FlagSignals x = ship("l1 0;f0 0 0;");
        due("haze -1", x.look(0, -1, true), OUTSIDE);
        due("haze 3", x.look(0, 3, true), OUTSIDE);
        due("the lowest", x.look(0, LOW, false), OUTSIDE);
        due("the greatest", x.look(0, FAR, false), OUTSIDE);
        due("haze 2", x.look(0, 2, false), 0);
    }

    static void promise18UnknownComesAhead() {
        FlagSignals x = ship("l1 0;f0 0 0;");
        due("look(1, 3, true)", x.look(1, 3, true), UNKNOWN);
        due("look(-1, -1, true)", x.look(-1, -1, true), UNKNOWN);
    }

    /** By WEATHERS: no haze, haze, fog, each without wind and with it. */
    private static void looks(String flag, int... want) {
        FlagSignals x = ship("l1 0;" + flag);
        for (int w = 0; w < 6; w++) due("LOOK of " + flag + " in " + w, x.look(0, w / 2, w % 2 == 1), want[w]);
    }

    static void promise18PlainBIsA() {
        looks("f0 2 3;", 12, 12, 12, 12, 12, 12);
        looks("f0 0 4;", 0, 0, 0, 0, 0, 0);
    }

    static void promise18HalvedWithoutWindAsPlainOfA() {
        looks("f1 2 3;", 12, 38, 12, 38, 12, 38);
        looks("f1 2 2;", 12, 37, 12, 37, 12, 37);
    }

    static void promise18CrossedInFogAsPlainOfA() {
        looks("f2 2 3;", 63, 63, 63, 63, 12, 12);
    }

    static void promise18BorderedInFogAsPlainOfA() {
        looks("f3 2 3;", 88, 88, 88, 88, 12, 12);
    }

    static void promise18InHazeAndFog1Is0() {
        looks("f0 1 0;", 6, 6, 0, 0, 0, 0);
        looks("f1 2 1;", 12, 36, 12, 35, 12, 35);
        looks("f2 1 2;", 57, 57, 52, 52, 0, 0);
    }

    static void promise18InHazeAndFog4Is3() {
        looks("f0 4 0;", 24, 24, 18, 18, 18, 18);
        looks("f1 4 4;", 24, 49, 18, 43, 18, 43);
        looks("f3 4 4;", 99, 99, 93, 93, 18, 18);
    }

    static void promise18TheOtherColoursStay() {
        looks("f1 0 2;", 0, 27, 0, 27, 0, 27);
        looks("f1 2 0;", 12, 35, 12, 35, 12, 35);
        looks("f1 3 2;", 18, 42, 18, 42, 18, 42);
    }

    static void promise18WhateverTheWeatherIsNow() {
        FlagSignals x = ship("l1 0;f1 4 1;");
        x.weather(2, false);
        due("no haze, wind", x.look(0, 0, true), 46);
        due("LOOK now", x.flag(0, 6), 18);
    }

    // ---- promise 19: "TOGETHER. UNKNOWN."

    static void promise19BitsOfNoSignal() {
        FlagSignals x = ship("l1 0;f0 0 0;e0;e0;");
        for (int k = 2; k < 32; k++) {
            due("bit " + k, x.together(1 << k), UNKNOWN);
            due("bit " + k + " and 0", x.together(1 << k | 1), UNKNOWN);
        }
        due("all bits", x.together(-1), UNKNOWN);
        due("all but the sign", x.together(FAR), UNKNOWN);
        due("the last that there is", x.together(2), 1);
    }

    static void promise19AllTenBits() {
        FlagSignals x = ship("l3 0;f0 0 0;" + Edges.many("e0;", 10));
        due("1023", x.together(1023), 0);
        due("1024", x.together(1024), UNKNOWN);
        due("512", x.together(512), 1);
    }

    static void promise19TheEmptySet() {
        due("with SIGNALS", ship("l1 0;f0 0 0;e0;").together(0), 1);
        due("without", ship("l1 0;").together(0), 1);
    }

    static void promise19OneLineEach() {
        String flags = "f0 0 0;f0 0 0;f0 0 0;f0 0 0;e0;e1;e2;e3;";
        for (int lines = 1; lines <= 3; lines++) {
            FlagSignals x = ship("l" + lines + " 0;" + flags);
            for (int n = 1; n <= 4; n++) due(n + " at " + lines, x.together((1 << n) - 1), n <= lines ? 1 : 0);
        }
    }

    static void promise19NotTheSameFlag() {
        FlagSignals x = ship("l2 3;f0 0 0;f0 0 0;e0;e1,0;e1;");
        due("FLAG 0 twice", x.together(3), 0);
        due("other FLAGS", x.together(5), 1);
    }

    static void promise19NotTheSameSubstitute() {
        FlagSignals x = ship("l2 2;f0 0 0;f0 0 0;f0 0 0;f0 0 0;e0,0;e1,1;e2,3,3;");
        due("SUBSTITUTE 1 twice", x.together(3), 0);
        due("1 and 2", x.together(5), 1);
    }

    static void promise19WhatCannotGoUp() {
        FlagSignals x = ship("l2 0;f0 0 0;f0 0 0;e0,0;e1;");
        due("alone", x.together(1), 0);
        due("with another", x.together(3), 0);
        due("the other", x.together(2), 1);
    }

    static void promise19WereNoLineInUse() {
        FlagSignals x = ship("l2 1;f0 0 0;f0 0 0;e0,0;e1;");
        x.hoist(0, 0);
        x.hoist(1, 1);
        due("both fly", x.together(3), 1);
    }

    static void promise19OfWhatIsNotTorn() {
        FlagSignals x = ship("l2 0;f0 0 0;f0 0 0;e0;e1;");
        x.hoist(0, 0);
        x.day(4);
        due("not yet", x.together(3), 1);
        x.day(1);
        due("torn, and flies", x.together(3), 0);
        x.haul(0);
        due("torn", x.together(1), 0);
        x.sew(0);
        due("sewn", x.together(3), 1);
    }

    // ---- promise 20: "TURNS: what = 0 how many, 1 the first; NONE. UNKNOWN, OUTSIDE."

    static void promise20Unknown() {
        FlagSignals x = ship("l1 0;f0 0 0;e0;e0;");
        for (int k = 2; k < 32; k++) due("bit " + k, x.turns(1 << k | 1, 0), UNKNOWN);
        due("all bits", x.turns(-1, 1), UNKNOWN);
        due("the last that there is", x.turns(2, 0), 1);
    }

    static void promise20Outside() {
        FlagSignals x = ship("l1 0;f0 0 0;e0;");
        due("turns(1, -1)", x.turns(1, -1), OUTSIDE);
        due("turns(1, 2)", x.turns(1, 2), OUTSIDE);
        due("of none, 2", x.turns(0, 2), OUTSIDE);
        due("the lowest", x.turns(1, LOW), OUTSIDE);
        due("the greatest", x.turns(1, FAR), OUTSIDE);
    }

    static void promise20UnknownComesAhead() {
        due("turns(2, 2)", ship("l1 0;f0 0 0;e0;").turns(2, 2), UNKNOWN);
    }

    static void promise20OutsideAheadOfNone() {
        due("one cannot go up", ship("l1 0;f0 0 0;e0,0;").turns(1, 2), OUTSIDE);
    }

    static void promise20TheEmptySet() {
        FlagSignals x = ship("l1 0;f0 0 0;e0;");
        due("how many", x.turns(0, 0), 0);
        due("the first", x.turns(0, 1), NONE);
    }

    static void promise20NoneIfOneCannotGoUp() {
        FlagSignals x = ship("l2 0;f0 0 0;f0 0 0;e0;e1,1;");
        for (int what = 0; what <= 1; what++) {
            due("it alone", x.turns(2, what), NONE);
            due("with another", x.turns(3, what), NONE);
            due("the other", x.turns(1, what), 1);
        }
        due("the empty set, though", x.turns(0, 0), 0);
    }

    static void promise20OfWhatIsNotTorn() {
        FlagSignals x = ship("l2 0;f0 0 0;f0 0 0;e0;e1;");
        x.hoist(0, 0);
        x.hoist(1, 1);
        due("all lines in use", x.turns(3, 0), 1);
        x.haul(1);
        x.day(5);
        due("torn", x.turns(3, 0), NONE);
        due("whole", x.turns(2, 0), 1);
    }

    static void promise20ByLines() {
        String ten = Edges.many("f0 0 0;", 10) + "e0;e1;e2;e3;e4;e5;e6;e7;e8;e9;";
        FlagSignals one = ship("l1 0;" + ten), two = ship("l2 0;" + ten), three = ship("l3 0;" + ten);
        due("ten by one", one.turns(1023, 0), 10);
        due("ten by one, the first", one.turns(1023, 1), 1);
        due("ten by two", two.turns(1023, 0), 5);
        due("ten by two, the first", two.turns(1023, 1), 3);
        due("nine by two", two.turns(511, 0), 5);
        due("nine by two, the first may be small", two.turns(511, 1), 1);
        due("ten by three", three.turns(1023, 0), 4);
        due("ten by three, the first", three.turns(1023, 1), 1);
        due("nine by three, the first", three.turns(511, 1), 7);
        due("eight by three, the first", three.turns(255, 1), 3);
        due("the last three", three.turns(896, 1), 896);
    }

    static void promise20TheSameFlagInEachTurnOnce() {
        FlagSignals x = ship("l3 0;f0 0 0;" + Edges.many("e0;", 10));
        due("how many", x.turns(1023, 0), 10);
        due("of three", x.turns(1 + 32 + 512, 0), 3);
        due("the first", x.turns(32 + 512, 1), 32);
    }

    static void promise20TheLeastFirstTurn() {
        // SIGNAL 0 has all FLAGS, so it is alone; 1 and 2 go together.
        FlagSignals x = ship("l2 0;f0 0 0;f0 0 0;e0,1;e0;e1;");
        due("how many", x.turns(7, 0), 2);
        due("the first", x.turns(7, 1), 1);
        // SIGNAL 2 has all FLAGS: 0 and 1 go together, and their set is less than 4.
        FlagSignals y = ship("l2 0;f0 0 0;f0 0 0;e0;e1;e0,1;");
        due("how many", y.turns(7, 0), 2);
        due("the first", y.turns(7, 1), 3);
        // 0 goes with 3 alone, 1 with 2 alone: 6 is less than 9.
        FlagSignals z = ship("l2 0;f0 0 0;f0 0 0;f0 0 0;f0 0 0;e0,1;e0,2;e1,3;e2,3;");
        due("how many", z.turns(15, 0), 2);
        due("the first", z.turns(15, 1), 6);
    }

    // ---- promise 21: "CLEAR WEEK. OUTSIDE."; "n clear days (0 .. 60), each by q of a hundred (0 .. 100)"

    static void promise21DaysOutside() {
        FlagSignals x = new FlagSignals();
        due("n -1", x.clear(-1, 50), OUTSIDE);
        due("n 61", x.clear(61, 50), OUTSIDE);
        due("n 61 of 100", x.clear(61, 100), OUTSIDE);
        due("n the lowest", x.clear(LOW, 50), OUTSIDE);
        due("n the greatest", x.clear(FAR, 50), OUTSIDE);
    }

    static void promise21OddsOutside() {
        FlagSignals x = new FlagSignals();
        due("q -1", x.clear(1, -1), OUTSIDE);
        due("q 101", x.clear(1, 101), OUTSIDE);
        due("q 101 for no days", x.clear(0, 101), OUTSIDE);
        due("q -1 for no days", x.clear(0, -1), OUTSIDE);
        due("q the lowest", x.clear(1, LOW), OUTSIDE);
        due("q the greatest", x.clear(1, FAR), OUTSIDE);
    }

    static void promise21NoDays() {
        FlagSignals x = new FlagSignals();
        for (int q = 0; q <= 100; q++) due("q " + q, x.clear(0, q), 1000000000);
    }

    static void promise21Never() {
        FlagSignals x = new FlagSignals();
        for (int n = 1; n <= 60; n++) due("n " + n, x.clear(n, 0), 0);
    }

    static void promise21Always() {
        FlagSignals x = new FlagSignals();
        for (int n = 0; n <= 60; n++) due("n " + n, x.clear(n, 100), 1000000000);
    }

    static void promise21OneDay() {
        FlagSignals x = new FlagSignals();
        for (int q = 0; q <= 100; q++) due("q " + q, x.clear(1, q), q * 10000000);
    }

    static void promise21CutEachTime() {
        FlagSignals x = new FlagSignals();
        due("nothing to cut", x.clear(4, 33), 11859210);
        due("the first cut", x.clear(5, 33), 3913539);
        // 15315 behind ten days: cut at the end alone, the eleventh would leave 5054.
        due("eleven days", x.clear(11, 33), 5053);
        due("one of a hundred, four days", x.clear(4, 1), 10);
        due("five days", x.clear(5, 1), 0);
        due("sixty days", x.clear(60, 1), 0);
    }

    // ---- promise 22: "READ: how much. UNKNOWN, FULL (8)."

    static void promise22UnknownSent() {
        FlagSignals x = ship("l1 0;f0 0 0;e0;e0;");
        for (int e : ODD) due("read(" + e + ", 0)", x.read(e, 0), UNKNOWN);
        due("the next", x.read(2, 0), UNKNOWN);
        due("READ", x.told(16), 0);
        due("the last", x.read(1, 0), 1);
    }

    static void promise22UnknownRead() {
        FlagSignals x = ship("l1 0;f0 0 0;e0;e0;");
        for (int e : ODD) due("read(0, " + e + ")", x.read(0, e), UNKNOWN);
        due("the next", x.read(0, 2), UNKNOWN);
        due("READ", x.told(16), 0);
        due("the last", x.read(0, 1), 1);
    }

    static void promise22TheSameMayBeRead() {
        FlagSignals x = ship("l1 0;f0 0 0;f0 0 0;e0;e1;");
        due("the same", x.read(0, 0), 1);
        due("in all WEATHERS", x.told(18), 63);
    }

    static void promise22FullAt8() {
        FlagSignals x = ship("l1 0;f0 0 0;f0 2 2;e0;e1;");
        for (int i = 1; i <= 8; i++) due("read " + i, x.read(0, 0), i);
        due("the ninth", x.read(0, 1), FULL);
        due("READ", x.told(16), 8);
        due("it was not read", x.told(18), 63);
    }

    static void promise22UnknownComesAheadOfFull() {
        FlagSignals x = ship("l1 0;f0 0 0;e0;");
        for (int i = 0; i < 8; i++) x.read(0, 0);
        due("sent", x.read(1, 0), UNKNOWN);
        due("read", x.read(0, -1), UNKNOWN);
    }

    static void promise22EachTime() {
        // Plain 0, halved 0 2, crossed 0 2: without wind 0 looks like 1, in fog like 2.
        FlagSignals x = ship("l1 0;f0 0 0;f1 0 2;f2 0 2;e0;e1;e2;");
        x.read(0, 1);
        due("no wind", x.told(18), 1 + 4 + 16);
        x.read(2, 0);
        due("fog, too", x.told(18), 16);
        due("how many", x.told(17), 1);
        x.read(1, 2);
        due("alike then", x.told(18), 16);
        for (int i = 4; i <= 8; i++) due("read " + i, x.read(0, 0), i);
        due("the eighth leaves it", x.told(18), 16);
    }

    static void promise22TheEighthCounts() {
        FlagSignals x = ship("l1 0;f0 0 0;f1 0 2;e0;e1;");
        for (int i = 0; i < 7; i++) x.read(0, 0);
        due("all", x.told(18), 63);
        x.read(0, 1);
        due("no wind", x.told(18), 21);
    }

    static void promise22WhatCannotGoUpLooksLikeNone() {
        FlagSignals x = ship("l1 0;f0 0 0;e0,0;");
        x.read(0, 0);
        due("not even itself", x.told(18), 0);
        due("how many", x.told(17), 0);
    }

    static void promise22AsThingsAreNow() {
        FlagSignals x = ship("l1 0;f0 0 0;f0 2 2;e0;e1;");
        x.read(0, 0);
        x.hoist(0, 0);
        x.day(5);
        due("torn since", x.told(18), 0);
        x.haul(0);
        x.anew(0, 0, 2, 2);
        x.read(0, 1);
        due("sewn anew since", x.told(18), 63);
    }

    // ---- promise 23: "An entry behind THE BOOK (a LINE; a SIGNAL, or NONE): how many. UNKNOWN, FULL (15)."

    static void promise23UnknownLine() {
        FlagSignals x = ship("l2 0;f0 0 0;e0;");
        for (int h : ODD) {
            due("write(" + h + ", 0)", x.write(h, 0), UNKNOWN);
            due("write(" + h + ", NONE)", x.write(h, NONE), UNKNOWN);
        }
        due("the next", x.write(2, 0), UNKNOWN);
        due("entries", x.told(20), 0);
        due("the last", x.write(1, 0), 1);
    }

    static void promise23UnknownSignal() {
        FlagSignals x = ship("l1 0;f0 0 0;e0;e0;");
        for (int e : ODD) if (e != NONE) due("write(0, " + e + ")", x.write(0, e), UNKNOWN);
        due("the next", x.write(0, 2), UNKNOWN);
        due("entries", x.told(20), 0);
        due("the last", x.write(0, 1), 1);
    }

    static void promise23NoneMayBeWritten() {
        due("with SIGNALS", ship("l1 0;f0 0 0;e0;").write(0, NONE), 1);
        due("without", ship("l1 0;").write(0, NONE), 1);
    }

    static void promise23FullAt15() {
        FlagSignals x = ship("l1 0;f0 0 0;e0;");
        for (int i = 1; i <= 15; i++) due("entry " + i, x.write(0, NONE), i);
        due("the sixteenth", x.write(0, 0), FULL);
        due("the sixteenth, none", x.write(0, NONE), FULL);
        due("entries", x.told(20), 15);
        due("it was not written", x.judge(), NONE);
    }

    static void promise23UnknownComesAheadOfFull() {
        FlagSignals x = ship("l1 0;f0 0 0;e0;");
        for (int i = 0; i < 15; i++) x.write(0, NONE);
        due("LINE", x.write(1, NONE), UNKNOWN);
        due("SIGNAL", x.write(0, 1), UNKNOWN);
        due("SIGNAL below NONE", x.write(0, -2), UNKNOWN);
    }

    // ---- promise 24: "Nothing READ, THE BOOK is empty: how much both had."

    static void promise24Nothing() {
        due("a new object", new FlagSignals().tear(), 0);
        due("a new ship", ship("l1 0;").tear(), 0);
    }

    static void promise24BothFull() {
        FlagSignals x = ship("l1 0;f0 0 0;f0 2 2;e0;e1;");
        for (int i = 0; i < 9; i++) x.read(0, 1);
        for (int i = 0; i < 16; i++) x.write(0, 0);
        due("how much", x.tear(), 23);
        due("READ", x.told(16), 0);
        due("entries", x.told(20), 0);
        due("WEATHERS", x.told(18), 63);
        due("FALSE", x.judge(), NONE);
        due("twice", x.tear(), 0);
        due("room to read", x.read(0, 0), 1);
        due("room to write", x.write(0, NONE), 1);
        due("the old is forgotten", x.judge(), NONE);
        due("the old is forgotten", x.told(18), 63);
    }

    static void promise24OneOfBoth() {
        FlagSignals x = ship("l1 0;f0 0 0;e0;");
        x.read(0, 0);
        due("read alone", x.tear(), 1);
        x.write(0, 0);
        x.write(0, NONE);
        due("written alone", x.tear(), 2);
    }

    static void promise24TheRestStays() {
        FlagSignals x = ship("l1 0;f0 0 0;e0;");
        x.hoist(0, 0);
        x.keep(0);
        x.day(1);
        x.read(0, 0);
        x.tear();
        due("DAYS", x.told(5), 1);
        due("what can be undone", x.told(21), 1);
        due("IMAGE", x.goBack(0), 1);
    }

    // ---- promise 25: "FALSE; NONE."

    static void promise25NoneIfTheBookIsEmpty() {
        due("a new object", new FlagSignals().judge(), NONE);
        due("a new ship", ship("l1 0;").judge(), NONE);
    }

    static void promise25NoneIfAllIsSo() {
        FlagSignals x = ship("l2 0;f0 0 0;e0;");
        x.hoist(1, 0);
        x.write(0, NONE);
        x.write(1, 0);
        due("judge()", x.judge(), NONE);
    }

    static void promise25TheFirstThatIsOtherwise() {
        FlagSignals x = ship("l2 0;f0 0 0;f0 0 0;e0;e1;");
        x.write(0, 0);
        due("nothing flies", x.judge(), 0);
        x.hoist(0, 1);
        due("another flies", x.judge(), 0);
        x.haul(0);
        x.hoist(0, 0);
        due("it flies", x.judge(), NONE);
        x.write(1, 0);
        x.write(0, NONE);
        due("it flies elsewhere", x.judge(), 1);
        x.tear();
        x.write(0, NONE);
        due("NONE, but one flies", x.judge(), 0);
    }

    static void promise25TheLastOfFifteen() {
        FlagSignals x = ship("l1 0;f0 0 0;e0;");
        for (int i = 0; i < 14; i++) x.write(0, NONE);
        x.write(0, 0);
        due("judge()", x.judge(), 14);
    }

    static void promise25OtherwiseNow() {
        FlagSignals x = ship("l1 0;f0 0 0;e0;");
        x.hoist(0, 0);
        x.write(0, 0);
        due("so", x.judge(), NONE);
        x.haul(0);
        due("no longer", x.judge(), 0);
        x.undo();
        due("undone", x.judge(), NONE);
        x.day(5);
        due("torn, it flies on", x.judge(), NONE);
    }

    // ---- promise 26: "THE SEED becomes v (0 .. 2147483647): what it was. OUTSIDE."

    static void promise26Outside() {
        FlagSignals x = new FlagSignals();
        due("seed(-1)", x.seed(-1), OUTSIDE);
        due("the lowest", x.seed(LOW), OUTSIDE);
        due("it stays", x.seed(0), 0);
    }

    static void promise26LeastAndGreatest() {
        FlagSignals x = new FlagSignals();
        due("0 at first", x.seed(FAR), 0);
        due("the greatest", x.seed(0), FAR);
        due("the least", x.seed(1), 0);
        due("one", x.seed(1), 1);
    }

    static void promise26DrawsGoOnFromIt() {
        FlagSignals x = ship("l1 0;"), y = ship("l1 0;");
        x.seed(123);
        x.drift(9);
        y.drift(3);
        y.seed(123);
        y.drift(9);
        due("the same draws", x.seed(0), y.seed(0));
    }

    // ---- promise 27: "IMAGE i becomes what is so (nothing can be undone then): 1. UNKNOWN."

    static void promise27Unknown() {
        FlagSignals x = ship("l1 0;");
        for (int i : ODD) due("keep(" + i + ")", x.keep(i), UNKNOWN);
        due("keep(2)", x.keep(2), UNKNOWN);
        due("none was kept", x.goBack(0), NOT);
        due("nor the other", x.goBack(1), NOT);
    }

    static void promise27NothingCanBeUndoneThen() {
        FlagSignals x = ship("l1 0;");
        x.day(1);
        due("keep(0)", x.keep(0), 1);
        due("how many", x.told(21), 0);
        due("undo()", x.undo(), NOT);
        x.day(1);
        due("keep(1)", x.keep(1), 1);
        due("undo()", x.undo(), NOT);
        due("DAYS", x.told(5), 2);
    }

    static void promise27RefusedLeavesWhatCanBeUndone() {
        FlagSignals x = ship("l1 0;");
        x.day(1);
        x.keep(2);
        due("undo()", x.undo(), 0);
    }

    static void promise27KeptOverIt() {
        FlagSignals x = ship("l1 0;");
        x.day(1);
        x.keep(0);
        x.day(1);
        due("again", x.keep(0), 1);
        x.day(1);
        x.goBack(0);
        due("DAYS", x.told(5), 2);
    }

    static void promise27BothApart() {
        FlagSignals x = ship("l1 0;");
        x.day(1);
        x.keep(0);
        x.day(1);
        x.keep(1);
        x.day(1);
        x.goBack(0);
        due("IMAGE 0", x.told(5), 1);
        x.goBack(1);
        due("IMAGE 1", x.told(5), 2);
    }

    // ---- promise 28: "What is so becomes IMAGE i (nothing can be undone then): 1. UNKNOWN, NOT: it was not kept."

    static void promise28Unknown() {
        FlagSignals x = ship("l1 0;");
        x.keep(0);
        x.keep(1);
        for (int i : ODD) due("goBack(" + i + ")", x.goBack(i), UNKNOWN);
        due("goBack(2)", x.goBack(2), UNKNOWN);
    }

    static void promise28NotIfNotKept() {
        FlagSignals x = ship("l1 0;");
        due("IMAGE 0", x.goBack(0), NOT);
        due("IMAGE 1", x.goBack(1), NOT);
        x.keep(1);
        due("the other was kept", x.goBack(0), NOT);
        due("this was", x.goBack(1), 1);
        Edges.tell(x, "l1 0;");
        due("gone with the ship", x.goBack(1), NOT);
    }

    static void promise28RefusedLeavesWhatCanBeUndone() {
        FlagSignals x = ship("l1 0;");
        x.day(1);
        due("not kept", x.goBack(0), NOT);
        due("unknown", x.goBack(2), UNKNOWN);
        due("undo()", x.undo(), 0);
    }

    static void promise28NothingCanBeUndoneThen() {
        FlagSignals x = ship("l1 0;");
        x.keep(0);
        x.day(1);
        due("goBack(0)", x.goBack(0), 1);
        due("how many", x.told(21), 0);
        due("undo()", x.undo(), NOT);
        x.day(1);
        due("the next can be", x.undo(), 0);
    }

    private static FlagSignals used() {
        FlagSignals x = ship("l2 2;f0 0 0;f1 1 2;f0 2 2;e0,0;e1;e2,1,1;");
        x.seed(11);
        x.hoist(0, 0);
        x.day(5);
        x.haul(0);
        x.hoist(1, 2);
        x.day(2);
        x.anew(0, 3, 3, 3);
        x.weather(2, false);
        return x;
    }

    static void promise28AllOfSection2AndTheSeed() {
        FlagSignals x = used();
        String ahead = Edges.deck(x);
        x.keep(1);
        x.haul(1);
        x.weather(0, true);
        x.anew(0, 1, 1, 1);
        x.anew(1, 2, 2, 2);
        x.hoist(0, 1);
        x.drift(20);
        x.seed(12);
        due("goBack(1)", x.goBack(1), 1);
        Edges.same("the state", Edges.deck(x), ahead);
        due("its SUBSTITUTE flies", x.hoist(0, 2), NOT);
    }

    static void promise28AllOfThreeLines() {
        FlagSignals x = ship("l3 2;" + Edges.many("f0 0 0;", 10) + "e0,1,2,3;e4,5,6,7;e8,9,9,8;");
        for (int h = 0; h < 3; h++) x.hoist(h, h);
        x.keep(0);
        for (int h = 0; h < 3; h++) x.haul(h);
        x.goBack(0);
        int[][] rows = {{0, 0, 1, 2, 3}, {1, 4, 5, 6, 7}, {2, 8, 9, 22, 21}};
        for (int h = 0; h < 3; h++) for (int what = 0; what <= 4; what++) due("line(" + h + ", " + what + ")", x.line(h, what), rows[h][what]);
        due("FREE", x.told(8), 0);
    }

    static void promise28AnImageStaysAsItWas() {
        FlagSignals x = used();
        x.keep(0);
        String ahead = Edges.deck(x);
        for (int i = 0; i < 2; i++) {
            x.drift(30);
            due("goBack(0)", x.goBack(0), 1);
        }
        Edges.same("the state", Edges.deck(x), ahead);
    }

    static void promise28NotAsItWasLater() {
        FlagSignals x = used();
        x.keep(0);
        x.goBack(0);
        x.haul(1);
        x.anew(2, 3, 1, 4);
        x.day(3);
        x.undo();
        x.goBack(0);
        Edges.same("the state", Edges.deck(x), Edges.deck(used()));
    }

    static void promise28WhatWasReadTheBookAndTheTextStay() {
        FlagSignals x = ship("l1 0;f0 0 0;e0;");
        x.keep(0);
        x.read(0, 0);
        x.write(0, NONE);
        x.feed('l');
        x.goBack(0);
        due("READ", x.told(16), 1);
        due("entries", x.told(20), 1);
        due("letters", x.told(4), 1);
    }

    static void promise28TheSameDrawsAgain() {
        FlagSignals x = used();
        x.keep(0);
        x.drift(40);
        String first = Edges.deck(x);
        x.goBack(0);
        x.drift(40);
        Edges.same("forty days again", Edges.deck(x), first);
    }

    public static void main(String[] args) throws IllegalAccessException {
        Edges.run(TriedEdgesTest.class, 18, 19, 20, 21, 22, 23, 24, 25, 26, 27, 28);
    }
}
