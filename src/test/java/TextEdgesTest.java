/** The edges of section 1 and of promises 2 (feed), 3 (ship), 4 (fault): THE TEXT, its FAULTS and their places. */
public final class TextEdgesTest {
    private static final int NONE = Edges.NONE, OUTSIDE = Edges.OUTSIDE, FULL = Edges.FULL, NOT = Edges.NOT, UNKNOWN = Edges.UNKNOWN;
    private static final String TEN_FLAGS = "l1 0;" + Edges.many("f0 0 0;", 10);
    private static final String TEN_SIGNALS = TEN_FLAGS + Edges.many("e9;", 10);

    private static void due(String what, int got, int want) {
        Edges.due(what, got, want);
    }

    /** The text has this FAULT there; a new object has no SHIP behind it, and THE TEXT is empty. */
    private static void faulty(String text, int number, int at) {
        FlagSignals x = new FlagSignals();
        due("ship() of '" + text + "'", Edges.tell(x, text), -10 - number);
        due("fault() of '" + text + "'", x.fault(), at);
        due("told(0) behind '" + text + "'", x.told(0), 0);
        due("told(4) behind '" + text + "'", x.told(4), 0);
    }

    private static FlagSignals good(String text, int signals) {
        FlagSignals x = new FlagSignals();
        due("ship() of '" + text + "'", Edges.tell(x, text), signals);
        due("fault() of '" + text + "'", x.fault(), NONE);
        return x;
    }

    // ---- promise 2: "One letter (a number 0 .. 255) comes behind THE TEXT: how many it has. OUTSIDE, FULL (240)."

    static void promise2LeastLetter() {
        due("feed(0)", new FlagSignals().feed(0), 1);
    }

    static void promise2GreatestLetter() {
        due("feed(255)", new FlagSignals().feed(255), 1);
    }

    static void promise2OutsideBelow() {
        due("feed(-1)", new FlagSignals().feed(-1), OUTSIDE);
        due("feed of the lowest", new FlagSignals().feed(Edges.LOW), OUTSIDE);
    }

    static void promise2OutsideAbove() {
        due("feed(256)", new FlagSignals().feed(256), OUTSIDE);
        due("feed of the greatest", new FlagSignals().feed(Edges.FAR), OUTSIDE);
        due("feed of 'l' and 256", new FlagSignals().feed('l' + 256), OUTSIDE);
    }

    static void promise2RefusedLetterIsNotInTheText() {
        FlagSignals x = new FlagSignals();
        Edges.feed(x, "l1");
        x.feed(256);
        x.feed(-1);
        due("the next letter", x.feed(' '), 3);
        due("ship()", Edges.tell(x, "0;"), 0);
        due("LINES", x.told(0), 1);
    }

    static void promise2TheLastThatFits() {
        FlagSignals x = new FlagSignals();
        for (int i = 1; i <= 240; i++) due("letter " + i, x.feed(' '), i);
    }

    static void promise2FullAt240() {
        FlagSignals x = new FlagSignals();
        Edges.feed(x, Edges.many(" ", 240));
        due("letter 241", x.feed(' '), FULL);
        due("letter 241, the least", x.feed(0), FULL);
        due("letters", x.told(4), 240);
    }

    static void promise2OutsideComesAheadOfFull() {
        FlagSignals x = new FlagSignals();
        Edges.feed(x, Edges.many(" ", 240));
        due("feed(256)", x.feed(256), OUTSIDE);
        due("feed(-1)", x.feed(-1), OUTSIDE);
    }

    static void promise2FullLetterIsNotInTheText() {
        FlagSignals x = new FlagSignals();
        Edges.feed(x, "l1 0" + Edges.many(" ", 236));
        due("the ';' is refused", x.feed(';'), FULL);
        due("ship()", x.ship(), -11);
        due("the end", x.fault(), 240);
    }

    static void promise2AllOf240LettersCount() {
        FlagSignals x = new FlagSignals();
        Edges.feed(x, "l1 0" + Edges.many(" ", 235));
        due("the last letter", x.feed(';'), 240);
        due("ship()", x.ship(), 0);
        due("LINES", x.told(0), 1);
    }

    static void promise2RoomAgainBehindShip() {
        FlagSignals x = new FlagSignals();
        Edges.feed(x, Edges.many("x", 240));
        due("ship()", x.ship(), -11);
        due("room behind a fault", x.feed('l'), 1);
        due("the rest", Edges.tell(x, "1 0;"), 0);
        due("room behind a ship", x.feed('l'), 1);
    }

    // ---- promise 3: ship

    static void promise3HowManySignals() {
        good("l1 0;", 0);
        good("l1 0;f0 0 0;", 0);
        good("l1 0;f0 0 0;e0;", 1);
        good(TEN_SIGNALS, 10);
    }

    static void promise3MinusTenLessTheFault() {
        due("fault 1", Edges.tell(new FlagSignals(), "x"), -11);
        due("fault 2", Edges.tell(new FlagSignals(), "l0 0;"), -12);
        due("fault 3", Edges.tell(new FlagSignals(), "l1 0;l"), -13);
    }

    static void promise3TheTextIsEmptyThen() {
        FlagSignals x = new FlagSignals();
        Edges.tell(x, "l1 0;");
        due("letters", x.told(4), 0);
        due("the next", x.feed('l'), 1);
    }

    static void promise3TheTextIsEmptyWithAFaultToo() {
        FlagSignals x = new FlagSignals();
        Edges.tell(x, "l1 0;x");
        due("letters", x.told(4), 0);
        // Were the faulty text still there, the next one would be faulty, too.
        due("the next", Edges.tell(x, "l2 0;"), 0);
        due("LINES", x.told(0), 2);
    }

    /** A ship on which all that can be otherwise than at first is so. */
    private static FlagSignals used() {
        FlagSignals x = Edges.ship("l2 2;f0 0 0;f0 1 1;f1 2 3;e0,0;e1;e2,2,2;");
        x.seed(77);
        x.hoist(0, 0);
        x.day(5);
        x.haul(0);
        x.hoist(1, 1);
        x.day(3);
        x.anew(2, 3, 4, 4);
        x.weather(2, false);
        x.read(0, 0);
        x.write(0, 0);
        x.keep(0);
        x.keep(1);
        x.day(1);
        return x;
    }

    private static final String NEXT = "l2 2;f0 0 0;f0 1 1;f1 2 3;e0,0;e1;e2,2,2;";

    static void promise3DayIs0() {
        FlagSignals x = used();
        due("DAYS ahead", x.told(5), 9);
        Edges.tell(x, NEXT);
        due("DAYS", x.told(5), 0);
    }

    static void promise3AllAreFreeWithoutWear() {
        FlagSignals x = used();
        Edges.tell(x, NEXT);
        due("FREE", x.told(8), 7);
        due("TORN", x.told(9), 0);
        for (int f = 0; f < 3; f++) {
            due("WEAR of " + f, x.flag(f, 3), 0);
            due("LINE of " + f, x.flag(f, 4), NONE);
            due("TORN " + f, x.flag(f, 5), 0);
        }
        for (int h = 0; h < 2; h++) {
            for (int what = 0; what <= 4; what++) due("line(" + h + ", " + what + ")", x.line(h, what), NONE);
        }
    }

    static void promise3SubstitutesAreFree() {
        FlagSignals x = Edges.ship("l1 3;f0 0 0;e0,0,0,0;");
        due("all three fly", x.hoist(0, 0), 3);
        Edges.tell(x, "l1 3;f0 0 0;e0,0,0,0;");
        due("all three again", x.hoist(0, 0), 3);
    }

    static void promise3NoHazeAndWind() {
        FlagSignals x = used();
        Edges.tell(x, NEXT);
        due("HAZE", x.told(6), 0);
        due("WIND", x.told(7), 1);
    }

    static void promise3FlagsAreAsToldAgain() {
        FlagSignals x = used();
        due("sewn anew", x.flag(2, 0), 3);
        Edges.tell(x, NEXT);
        due("KIND", x.flag(2, 0), 1);
        due("A", x.flag(2, 1), 2);
        due("B", x.flag(2, 2), 3);
    }

    static void promise3NothingRead() {
        FlagSignals x = used();
        Edges.tell(x, NEXT);
        due("READ", x.told(16), 0);
        due("WEATHERS", x.told(18), 63);
    }

    static void promise3NoBook() {
        FlagSignals x = used();
        Edges.tell(x, NEXT);
        due("entries", x.told(20), 0);
        due("FALSE", x.judge(), NONE);
        due("both", x.tear(), 0);
    }

    static void promise3ImagesAreGone() {
        FlagSignals x = used();
        Edges.tell(x, NEXT);
        due("IMAGE 0", x.goBack(0), NOT);
        due("IMAGE 1", x.goBack(1), NOT);
    }

    static void promise3WhatCouldBeUndoneIsGone() {
        FlagSignals x = used();
        due("ahead", x.told(21), 1);
        Edges.tell(x, NEXT);
        due("behind", x.told(21), 0);
        due("undo()", x.undo(), NOT);
    }

    static void promise3TheSeedStays() {
        FlagSignals x = used();
        Edges.tell(x, NEXT);
        due("seed behind a ship", x.seed(5), 77);
        x.ship();
        due("seed behind an empty text", x.seed(6), 5);
        Edges.tell(x, "x");
        due("seed behind a fault", x.seed(0), 6);
    }

    static void promise3WithAFaultAllElseIsAsItWas() {
        String[] texts = {"x", "l0 0;", "l1 0;l1 0;", "l3 3;f3 4 4;f0 0 0;e0,1;e1,", "l1 0;f2 2 2;e0;e1;"};
        for (String text : texts) {
            FlagSignals x = used(), twin = used();
            due("a fault in '" + text + "'", Edges.tell(x, text) < -10 ? 1 : 0, 1);
            Edges.same("the state behind '" + text + "'", Edges.deck(x), Edges.deck(twin));
            due("what can be undone", x.told(21), twin.told(21));
            due("undo()", x.undo(), 0);
            due("IMAGE 0", x.goBack(0), 1);
            due("IMAGE 1", x.goBack(1), 1);
            Edges.same("the image behind '" + text + "'", Edges.deck(x), Edges.deck(goneBack()));
        }
    }

    private static FlagSignals goneBack() {
        FlagSignals x = used();
        x.goBack(1);
        return x;
    }

    static void promise3WhatIsNoLongerToldIsUnknown() {
        FlagSignals x = Edges.ship("l3 3;f0 0 0;f0 1 1;e0;e1;");
        Edges.tell(x, "l1 0;f0 0 0;e0;");
        due("line(1, 0)", x.line(1, 0), UNKNOWN);
        due("flag(1, 0)", x.flag(1, 0), UNKNOWN);
        due("signal(1, 0)", x.signal(1, 0), UNKNOWN);
        due("together(2)", x.together(2), UNKNOWN);
        due("FREE", x.told(8), 1);
        due("SUBSTITUTES", x.told(1), 0);
    }

    static void promise3ShorterSignalsHaveNoOldFlags() {
        FlagSignals x = Edges.ship("l1 3;f0 0 0;e0,0,0,0;");
        Edges.tell(x, "l1 3;f0 0 0;e0;");
        due("how many", x.signal(0, 0), 1);
        for (int i = 2; i <= 4; i++) due("FLAG " + i, x.signal(0, i), NONE);
        Edges.tell(x, "l1 3;f0 0 0;e0,0,0,0;");
        Edges.tell(x, "l1 3;f0 0 0;e0,0,;");
        due("behind a fault", x.signal(0, 0), 4);
    }

    static void promise3NothingOfAFaultyTextIsLeft() {
        FlagSignals x = new FlagSignals();
        due("a fault", Edges.tell(x, "l3 3;f3 3 3;f3 3 3;e0,0,0;e1,1;e0,0,x"), -11);
        due("the next", Edges.tell(x, "l1 0;f0 0 0;e0;"), 1);
        due("FLAGS", x.told(2), 1);
        due("KIND", x.flag(0, 0), 0);
        due("how many", x.signal(0, 0), 1);
        due("a fault in 'l'", Edges.tell(x, "l3 3x"), -11);
        due("an empty text", x.ship(), 0);
        for (int what = 0; what <= 3; what++) due("told(" + what + ")", x.told(what), 0);
    }

    static void promise3NothingOfAnOlderShipIsLeft() {
        FlagSignals x = new FlagSignals();
        for (int i = 0; i < 3; i++) {
            due("a great one", Edges.tell(x, "l3 3;f3 4 4;f3 4 4;e1,1,1,1;e0,0;"), 2);
            due("a small one", Edges.tell(x, "l1 0;f0 2 1;e0;"), 1);
            due("LINES", x.told(0), 1);
            due("SUBSTITUTES", x.told(1), 0);
            due("FLAGS", x.told(2), 1);
            due("LOOK", x.flag(0, 6), 12);
            due("how many", x.signal(0, 0), 1);
            due("the FLAG", x.signal(0, 1), 0);
            due("no more", x.signal(0, 2), NONE);
            due("a second small one", Edges.tell(x, "l1 0;f0 2 1;f0 2 1;e0,1;"), 1);
            due("FLAGS", x.told(2), 2);
            due("how many", x.signal(0, 0), 2);
        }
        Edges.tell(x, "l3 3;f3 4 4;f3 4 4;e1,1,1,1;e0,0;");
        for (int i = 0; i < 3; i++) {
            due("no SHIP", x.ship(), 0);
            for (int what = 0; what <= 3; what++) due("told(" + what + ")", x.told(what), 0);
        }
    }

    // ---- section 1: "An empty text (or one of blanks alone): no SHIP."

    static void promise3EmptyTextOnANewObject() {
        FlagSignals x = good("", 0);
        due("LINES", x.told(0), 0);
        due("WIND", x.told(7), 0);
        due("day(1)", x.day(1), NOT);
    }

    static void promise3BlanksAloneOnANewObject() {
        due("LINES behind one blank", good(" ", 0).told(0), 0);
        due("LINES behind 240 blanks", good(Edges.many(" ", 240), 0).told(0), 0);
    }

    private static void noShip(FlagSignals x) {
        int[] told = {0, 0, 0, 0, 0, 0, 0, 0, 0, 0, 0, 0, 0, 0, NONE, NONE, 0, 6, 63, NONE, 0, 0};
        for (int what = 0; what < told.length; what++) due("told(" + what + ")", x.told(what), told[what]);
        due("flag", x.flag(0, 0), UNKNOWN);
        due("signal", x.signal(0, 0), UNKNOWN);
        due("line", x.line(0, 0), UNKNOWN);
        due("day", x.day(1), NOT);
        due("drift", x.drift(1), NOT);
        due("weather", x.weather(1, true), NOT);
        due("undo", x.undo(), NOT);
        due("goBack(0)", x.goBack(0), NOT);
        due("goBack(1)", x.goBack(1), NOT);
        due("judge", x.judge(), NONE);
        due("tear", x.tear(), 0);
    }

    static void promise3EmptyTextTakesTheShipAway() {
        FlagSignals x = used();
        due("ship()", x.ship(), 0);
        noShip(x);
    }

    static void promise3BlanksAloneTakeTheShipAway() {
        FlagSignals x = used();
        due("ship()", Edges.tell(x, "   "), 0);
        noShip(x);
    }

    // ---- promise 4: "The letter of the FAULT of the latest ship(); NONE."

    static void promise4NoneAtFirst() {
        FlagSignals x = new FlagSignals();
        due("fault()", x.fault(), NONE);
        Edges.feed(x, "x");
        due("fault() of a text that is not yet told", x.fault(), NONE);
    }

    static void promise4OfTheLatestShip() {
        FlagSignals x = new FlagSignals();
        Edges.tell(x, "l1 0;x");
        due("fault()", x.fault(), 5);
        due("fault() again", x.fault(), 5);
        Edges.feed(x, "l9");
        due("fault() while the next is fed", x.fault(), 5);
        x.ship();
        due("fault() of the next", x.fault(), 1);
        Edges.tell(x, "l1 0;");
        due("fault() of a good one", x.fault(), NONE);
        Edges.tell(x, "l");
        x.ship();
        due("fault() of an empty one", x.fault(), NONE);
    }

    // ---- section 1: "1 it cannot stand there (a letter that is no word, another word first than 'l'; a fifth F: at its ',')"

    static void promise4ALetterThatIsNoWordFirst() {
        for (int letter = 0; letter <= 255; letter++) {
            if (letter == ' ' || letter == 'l') continue;
            FlagSignals x = new FlagSignals();
            x.feed(letter);
            due("ship() of letter " + letter, x.ship(), -11);
            due("fault() of letter " + letter, x.fault(), 0);
        }
    }

    static void promise4ALetterThatIsNoWordBehindAClause() {
        for (int letter = 0; letter <= 255; letter++) {
            if (letter == ' ' || letter == 'l' || letter == 'f' || letter == 'e') continue;
            FlagSignals x = new FlagSignals();
            Edges.feed(x, "l1 0;f0 0 0;");
            x.feed(letter);
            due("ship() with letter " + letter, x.ship(), -11);
            due("fault() with letter " + letter, x.fault(), 12);
        }
    }

    static void promise4AnotherWordFirst() {
        faulty("f0 0 0;l1 0;", 1, 0);
        faulty("e0;", 1, 0);
        faulty(";l1 0;", 1, 0);
        faulty(",", 1, 0);
        faulty("  f", 1, 2);
        faulty("L1 0;", 1, 0);
        faulty("1 0;", 1, 0);
    }

    static void promise4NoLetterMayBeAnother() {
        String text = "l1 0;f0 0 0;e0,0,0,0;";
        for (int i = 0; i < text.length(); i++) faulty(text.substring(0, i) + "x" + text.substring(i + 1), 1, i);
    }

    static void promise4NoWordMayBeMissing() {
        faulty("l1 0 f0 0 0;", 1, 5);
        faulty("l1 0;0 0 0;", 1, 5);
        faulty("l1 0;f0 0 0 e0;", 1, 12);
        faulty("l1;", 1, 2);
        faulty("l1 0;f0 0;", 1, 9);
        faulty("l1 0;f0 0 0;e0 0;", 1, 15);
        faulty("l;", 1, 1);
    }

    static void promise4NoWordTwice() {
        faulty("ll1 0;", 1, 1);
        faulty("l1 0;;", 1, 5);
        faulty("l1 0;ff0 0 0;", 1, 6);
        faulty("l1 0;f0 0 0;e0,,0;", 1, 15);
        faulty("l1 0;f0 0 0;e,0;", 1, 13);
    }

    static void promise4NoNumberMore() {
        faulty("l1 0 0;", 1, 5);
        faulty("l1 0;f0 0 0 0;", 1, 12);
        faulty("l1 0;f0,0,0;", 1, 7);
        faulty("l1,0;", 1, 2);
    }

    static void promise4OtherBlanksAreNoBlanks() {
        faulty("l1\t0;", 1, 2);
        faulty("l1 0;\n", 1, 5);
        faulty("\r", 1, 0);
        faulty("l1 0;" + (char) 160, 1, 5);
        faulty("l1 0;" + (char) 0, 1, 5);
    }

    static void promise4ASignalHasOneFlagAtLeast() {
        faulty("l1 0;f0 0 0;e;", 1, 13);
        faulty("l1 0;f0 0 0;e ;", 1, 14);
    }

    static void promise4FourFlagsMayStand() {
        FlagSignals x = good("l1 0;f0 0 0;e0,0,0,0;", 1);
        due("how many", x.signal(0, 0), 4);
    }

    static void promise4AFifthFlagAtItsComma() {
        faulty("l1 0;f0 0 0;e0,0,0,0,0;", 1, 20);
        faulty("l1 0;f0 0 0;e0,0,0,0 , 0;", 1, 21);
        faulty("l1 0;f0 0 0;e0,0,0,0,", 1, 20);
        faulty("l1 0;f0 0 0;e0,0,0,0,7;", 1, 20);
    }

    static void promise4AnyFlagAsOftenAsOneLikes() {
        FlagSignals x = good("l1 0;f0 0 0;f0 0 0;e1,1,1,1;e1,0,1,0;e1;e1;", 4);
        for (int i = 1; i <= 4; i++) due("FLAG " + i, x.signal(0, i), 1);
    }

    // ---- section 1: "(the end at the text's length)"

    static void promise4TheEndAtTheTextsLength() {
        String text = "l1 0;f0 0 0;e0,0;";
        for (int n = 1; n <= text.length(); n++) {
            String part = text.substring(0, n);
            if (part.endsWith(";")) good(part, n == text.length() ? 1 : 0);
            else faulty(part, 1, n);
        }
    }

    static void promise4TheEndBehindBlanks() {
        faulty("l ", 1, 2);
        faulty("l1 ", 1, 3);
        faulty("l1 0   ", 1, 7);
        faulty("l1 0;f0 0 0;e0  ", 1, 16);
        faulty("l1 0;f0 0 0;e0, ", 1, 16);
    }

    // ---- section 1: "blanks (32) may stand anywhere but within NUMBERS; two NUMBERS side by side need one"

    static void promise4BlanksAnywhere() {
        FlagSignals x = good("  l  2  1  ;  f  3  4  2  ;  e  0  ,  0  ;  ", 1);
        due("LINES", x.told(0), 2);
        due("SUBSTITUTES", x.told(1), 1);
        due("KIND", x.flag(0, 0), 3);
        due("A", x.flag(0, 1), 4);
        due("B", x.flag(0, 2), 2);
        due("how many", x.signal(0, 0), 2);
    }

    static void promise4NoBlanksButBetweenNumbers() {
        good("l1 0;f0 0 0;e0,0;", 1);
    }

    static void promise4ABlankWithinANumberMakesTwo() {
        faulty("l0 01 0;", 2, 1);
        faulty("l1 0 0;", 1, 5);
        faulty("l1 0;f0 0 0;e0 0;", 1, 15);
    }

    static void promise4TwoNumbersSideBySideNeedABlank() {
        faulty("l10;", 2, 1);
        faulty("l01;", 1, 3);
        faulty("l1 0;f00 0;", 1, 10);
        faulty("l1 0;f000;", 1, 9);
        faulty("l1 0;f0 00;", 1, 10);
    }

    // ---- section 1: "NUMBERS have one to three figures"; "2 a NUMBER of four figures or more"

    static void promise4ThreeFigures() {
        FlagSignals x = good("l003 002;f003 004 001;e000,00,0;", 1);
        due("LINES", x.told(0), 3);
        due("SUBSTITUTES", x.told(1), 2);
        due("LOOK", x.flag(0, 6), 75 + 20 + 1);
    }

    static void promise4FourFiguresAtTheFirst() {
        faulty("l0001 0;", 2, 1);
        faulty("l1 0000;", 2, 3);
        faulty("l1 0;f0000 0 0;", 2, 6);
        faulty("l1 0;f0 0000 0;", 2, 8);
        faulty("l1 0;f0 0 0000;", 2, 10);
        faulty("l1 0;f0 0 0;e0000;", 2, 13);
        faulty("l1 0;f0 0 0;e0,0000;", 2, 15);
        faulty("l 0001 0;", 2, 2);
    }

    static void promise4MoreFigures() {
        faulty("l" + Edges.many("0", 100) + "1 0;", 2, 1);
        // 2 to the 32 and 1: a value that wraps around would be 1.
        faulty("l4294967297 0;", 2, 1);
        faulty("l1 4294967296;", 2, 3);
        faulty("l" + Edges.many("9", 239), 2, 1);
    }

    // ---- section 1: "or out of its bounds"

    static void promise4LinesAreOneToThree() {
        faulty("l0 0;", 2, 1);
        due("the least", good("l1 0;", 0).told(0), 1);
        due("the greatest", good("l3 0;", 0).told(0), 3);
        faulty("l4 0;", 2, 1);
        faulty("l999 0;", 2, 1);
    }

    static void promise4SubstitutesAreNoneToThree() {
        due("the least", good("l1 0;", 0).told(1), 0);
        due("the greatest", good("l1 3;", 0).told(1), 3);
        faulty("l1 4;", 2, 3);
        faulty("l1 999;", 2, 3);
    }

    static void promise4KindsAre0To3() {
        due("the least", good("l1 0;f0 0 0;", 0).flag(0, 0), 0);
        due("the greatest", good("l1 0;f3 0 0;", 0).flag(0, 0), 3);
        faulty("l1 0;f4 0 0;", 2, 6);
    }

    static void promise4ColoursAre0To4() {
        due("A, the greatest", good("l1 0;f0 4 0;", 0).flag(0, 1), 4);
        due("B, the greatest", good("l1 0;f0 0 4;", 0).flag(0, 2), 4);
        faulty("l1 0;f0 5 0;", 2, 8);
        faulty("l1 0;f0 0 5;", 2, 10);
    }

    // ---- section 1: "a FLAG that there is not (at its first)"

    static void promise4NoFlagsAtAll() {
        faulty("l1 0;e0;", 2, 6);
    }

    static void promise4TheLastFlagAndTheNext() {
        good("l1 0;f0 0 0;f0 0 0;e1;", 1);
        faulty("l1 0;f0 0 0;f0 0 0;e2;", 2, 20);
        faulty("l1 0;f0 0 0;e0,0,0,1;", 2, 19);
        good(TEN_FLAGS + "e9;", 1);
        faulty(TEN_FLAGS + "e10;", 2, 76);
        faulty(TEN_FLAGS + "e 123;", 2, 77);
    }

    static void promise4FlagsAreToldAhead() {
        faulty("l1 0;e0;f0 0 0;", 2, 6);
        faulty("l1 0;f0 0 0;e1;f0 0 0;", 2, 13);
        good("l1 0;f0 0 0;e0;f0 0 0;e1;", 2);
    }

    // ---- section 1: "3 'l' again, an eleventh 'f', 'e' (at it)"

    static void promise4LinesAgain() {
        faulty("l1 0;l1 0;", 3, 5);
        faulty("l1 0;l", 3, 5);
        faulty("l1 0; l9", 3, 6);
        faulty("l1 0;f0 0 0;e0;l1 0;", 3, 15);
    }

    static void promise4TenFlags() {
        due("FLAGS", good(TEN_FLAGS, 0).told(2), 10);
    }

    static void promise4AnEleventhFlag() {
        faulty(TEN_FLAGS + "f0 0 0;", 3, 75);
        faulty(TEN_FLAGS + " f", 3, 76);
        faulty(TEN_FLAGS + "e0;f0 0 0;", 3, 78);
    }

    static void promise4TenSignals() {
        due("SIGNALS", good(TEN_SIGNALS, 10).told(3), 10);
    }

    static void promise4AnEleventhSignal() {
        faulty(TEN_SIGNALS + "e9;", 3, 105);
        faulty(TEN_SIGNALS + "  e", 3, 107);
        faulty("l1 0;f0 0 0;" + Edges.many("e0;", 10) + "f0 0 0;e1;", 3, 49);
    }

    // ---- section 1: "FAULTS, at the first letter that has one, of these the least"

    static void promise4TheFirstLetterThatHasOne() {
        faulty("l0 9;f9 9 9;", 2, 1);
        faulty("l1 9;x", 2, 3);
        faulty("l1 0;f0 9 0;l", 2, 8);
        faulty("l1 0;l1 0;x", 3, 5);
        faulty("l1 0;x;l1 0;", 1, 5);
        faulty("l1 0;f0 0 0;e7", 2, 13);
        faulty(TEN_FLAGS + "f9", 3, 75);
        faulty(TEN_SIGNALS + "e99,", 3, 105);
    }

    static void promise4OfOneLetterTheLeast() {
        // 'l' again, 'f', 'e' once too often: but they cannot stand there at all.
        faulty("l1 l", 1, 3);
        faulty("l1 0;f0 l", 1, 8);
        faulty(TEN_FLAGS + "e0f", 1, 77);
        faulty(TEN_SIGNALS + "f", 3, 105);
        faulty(TEN_FLAGS + Edges.many("e9;", 9) + "e9e", 1, 104);
        // A NUMBER out of all bounds, where none can stand.
        faulty("9999", 1, 0);
        faulty("l1 0 9999;", 1, 5);
        faulty("l1 0;9999", 1, 5);
        faulty("l1 0;f0 0 0;e0 9999;", 1, 15);
    }

    public static void main(String[] args) throws IllegalAccessException {
        Edges.run(TextEdgesTest.class, 2, 3, 4);
    }
}
