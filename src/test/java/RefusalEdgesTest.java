/**
 * "What is refused changes nothing" and "TRIED from now; nothing changes by it": of two objects made alike one is
 * called, and then both must be alike in all that can be asked, undone and gone back to.
 */
public final class RefusalEdgesTest {
    private static final int NONE = Edges.NONE, UNKNOWN = Edges.UNKNOWN, OUTSIDE = Edges.OUTSIDE, NOT = Edges.NOT, FULL = Edges.FULL;
    private static final int FAR = Edges.FAR, LOW = Edges.LOW;

    /** Torn FLAG 0; FLAG 1 flies at LINE 0; images, reads, a book, letters, what can be undone. */
    private static FlagSignals busy() {
        FlagSignals x = Edges.ship("l2 1;f0 0 0;f1 1 2;f0 2 2;e0,0;e1;e2;");
        x.hoist(0, 0);
        x.day(5);
        x.haul(0);
        x.seed(7);
        x.keep(0);
        x.hoist(0, 1);
        x.day(2);
        x.seed(8);
        x.keep(1);
        x.weather(1, false);
        x.anew(2, 2, 3, 1);
        x.read(1, 2);
        x.write(0, 1);
        x.write(1, 2);
        Edges.feed(x, "l1");
        return x;
    }

    private static final String BUSY = Edges.depths(busy());

    private static void refuse(String what, int want, Edges.Call call) {
        FlagSignals x = busy();
        Edges.due(what, call.on(x), want);
        Edges.same("the state behind " + what, Edges.depths(x), BUSY);
    }

    private static void refuse(Edges.Maker maker, String what, int want, Edges.Call call) {
        FlagSignals x = maker.make();
        Edges.due(what, call.on(x), want);
        Edges.same("the state behind " + what, Edges.state(x), Edges.state(maker.make()));
    }

    private static void ask(String what, Edges.Call call) {
        FlagSignals x = busy();
        int first = call.on(x);
        Edges.due(what + " once more", call.on(x), first);
        Edges.same("the state behind " + what, Edges.depths(x), BUSY);
    }

    // ---- what is refused

    static void promise2Feed() {
        refuse("feed(-1)", OUTSIDE, x -> x.feed(-1));
        refuse("feed(256)", OUTSIDE, x -> x.feed(256));
        refuse(RefusalEdgesTest::fullText, "feed('x')", FULL, x -> x.feed('x'));
        refuse(RefusalEdgesTest::fullText, "feed(300)", OUTSIDE, x -> x.feed(300));
    }

    private static FlagSignals fullText() {
        FlagSignals x = new FlagSignals();
        Edges.feed(x, Edges.many("l", 240));
        return x;
    }

    static void promise5Told() {
        refuse("told(-1)", OUTSIDE, x -> x.told(-1));
        refuse("told(22)", OUTSIDE, x -> x.told(22));
    }

    static void promise6Flag() {
        refuse("flag(3, 0)", UNKNOWN, x -> x.flag(3, 0));
        refuse("flag(0, 7)", OUTSIDE, x -> x.flag(0, 7));
    }

    static void promise7Signal() {
        refuse("signal(3, 0)", UNKNOWN, x -> x.signal(3, 0));
        refuse("signal(0, 7)", OUTSIDE, x -> x.signal(0, 7));
    }

    static void promise8Line() {
        refuse("line(2, 0)", UNKNOWN, x -> x.line(2, 0));
        refuse("line(0, 5)", OUTSIDE, x -> x.line(0, 5));
    }

    static void promise9Needs() {
        refuse("needs(3, 1)", UNKNOWN, x -> x.needs(3, 1));
        refuse("needs(0, 5)", OUTSIDE, x -> x.needs(0, 5));
        refuse("needs(0, 0)", OUTSIDE, x -> x.needs(0, 0));
    }

    static void promise10Hoist() {
        refuse("hoist(2, 2)", UNKNOWN, x -> x.hoist(2, 2));
        refuse("hoist(-1, 2)", UNKNOWN, x -> x.hoist(-1, 2));
        refuse("hoist(1, 3)", UNKNOWN, x -> x.hoist(1, 3));
        refuse("hoist(1, NONE)", UNKNOWN, x -> x.hoist(1, NONE));
        refuse("hoist(0, 2), in use", NOT, x -> x.hoist(0, 2));
        refuse("hoist(1, 0), torn", NOT, x -> x.hoist(1, 0));
        refuse("hoist(1, 1), it flies", NOT, x -> x.hoist(1, 1));
    }

    static void promise10HoistOfWhatGoesUpInPart() {
        Edges.Maker maker = () -> Edges.ship("l2 1;f0 0 0;f0 0 0;f0 0 0;e0,1,2,2;e0,0,0;e0;");
        refuse(maker, "hoist(0, 0): the fourth is missing", NOT, x -> x.hoist(0, 0));
        refuse(maker, "hoist(1, 1): the third is missing", NOT, x -> x.hoist(1, 1));
    }

    static void promise11Haul() {
        refuse("haul(2)", UNKNOWN, x -> x.haul(2));
        refuse("haul(-1)", UNKNOWN, x -> x.haul(-1));
        refuse("haul(1)", NOT, x -> x.haul(1));
    }

    static void promise12Day() {
        refuse("day(0)", OUTSIDE, x -> x.day(0));
        refuse("day(61)", OUTSIDE, x -> x.day(61));
        refuse("day(-5)", OUTSIDE, x -> x.day(-5));
        refuse(RefusalEdgesTest::longAtSea, "day(1)", FULL, x -> x.day(1));
        refuse(FlagSignals::new, "day(1) without a ship", NOT, x -> x.day(1));
    }

    private static FlagSignals longAtSea() {
        FlagSignals x = Edges.ship("l1 0;f0 0 0;e0;");
        for (int i = 0; i < 151; i++) x.day(60);
        x.hoist(0, 0);
        x.seed(9);
        return x;
    }

    static void promise13Sew() {
        refuse("sew(3)", UNKNOWN, x -> x.sew(3));
        refuse("sew(-1)", UNKNOWN, x -> x.sew(-1));
        refuse("sew(1), it flies", NOT, x -> x.sew(1));
        refuse("sew(2), not torn", NOT, x -> x.sew(2));
    }

    static void promise14Anew() {
        refuse("anew(3, 0, 0, 0)", UNKNOWN, x -> x.anew(3, 0, 0, 0));
        refuse("anew(0, 4, 0, 0)", OUTSIDE, x -> x.anew(0, 4, 0, 0));
        refuse("anew(0, 0, 5, 0)", OUTSIDE, x -> x.anew(0, 0, 5, 0));
        refuse("anew(0, 0, 0, -1)", OUTSIDE, x -> x.anew(0, 0, 0, -1));
        refuse("anew(1, 0, 0, 0), it flies", NOT, x -> x.anew(1, 0, 0, 0));
    }

    static void promise15Weather() {
        refuse("weather(-1, true)", OUTSIDE, x -> x.weather(-1, true));
        refuse("weather(3, true)", OUTSIDE, x -> x.weather(3, true));
        refuse("weather(1, false), it is so", NOT, x -> x.weather(1, false));
        refuse(FlagSignals::new, "weather(1, true) without a ship", NOT, x -> x.weather(1, true));
    }

    static void promise16Drift() {
        refuse("drift(0)", OUTSIDE, x -> x.drift(0));
        refuse("drift(61)", OUTSIDE, x -> x.drift(61));
        refuse(RefusalEdgesTest::longAtSea, "drift(1)", FULL, x -> x.drift(1));
        refuse(FlagSignals::new, "drift(1) without a ship", NOT, x -> x.drift(1));
    }

    static void promise17Undo() {
        refuse(FlagSignals::new, "undo()", NOT, x -> x.undo());
        refuse(() -> Edges.ship("l1 0;f0 0 0;e0;"), "undo()", NOT, x -> x.undo());
    }

    static void promise18Look() {
        refuse("look(3, 0, true)", UNKNOWN, x -> x.look(3, 0, true));
        refuse("look(0, 3, true)", OUTSIDE, x -> x.look(0, 3, true));
    }

    static void promise19Together() {
        refuse("together(8)", UNKNOWN, x -> x.together(8));
        refuse("together(-1)", UNKNOWN, x -> x.together(-1));
    }

    static void promise20Turns() {
        refuse("turns(8, 0)", UNKNOWN, x -> x.turns(8, 0));
        refuse("turns(1, 2)", OUTSIDE, x -> x.turns(1, 2));
    }

    static void promise21Clear() {
        refuse("clear(61, 0)", OUTSIDE, x -> x.clear(61, 0));
        refuse("clear(0, 101)", OUTSIDE, x -> x.clear(0, 101));
    }

    static void promise22Read() {
        refuse("read(3, 0)", UNKNOWN, x -> x.read(3, 0));
        refuse("read(0, NONE)", UNKNOWN, x -> x.read(0, NONE));
        Edges.Maker full = () -> {
            FlagSignals x = busy();
            for (int i = 0; i < 7; i++) x.read(1, 1);
            return x;
        };
        refuse(full, "read(0, 0)", FULL, x -> x.read(0, 0));
    }

    static void promise23Write() {
        refuse("write(2, 0)", UNKNOWN, x -> x.write(2, 0));
        refuse("write(0, 3)", UNKNOWN, x -> x.write(0, 3));
        refuse("write(0, -2)", UNKNOWN, x -> x.write(0, -2));
        Edges.Maker full = () -> {
            FlagSignals x = busy();
            for (int i = 0; i < 13; i++) x.write(0, 1);
            return x;
        };
        refuse(full, "write(0, NONE)", FULL, x -> x.write(0, NONE));
    }

    static void promise26Seed() {
        refuse("seed(-1)", OUTSIDE, x -> x.seed(-1));
        refuse("the lowest", OUTSIDE, x -> x.seed(LOW));
    }

    static void promise27Keep() {
        refuse("keep(2)", UNKNOWN, x -> x.keep(2));
        refuse("keep(-1)", UNKNOWN, x -> x.keep(-1));
    }

    static void promise28GoBack() {
        refuse("goBack(2)", UNKNOWN, x -> x.goBack(2));
        refuse("goBack(-1)", UNKNOWN, x -> x.goBack(-1));
        Edges.Maker notKept = () -> {
            FlagSignals x = Edges.ship("l1 0;f0 0 0;e0;");
            x.hoist(0, 0);
            x.keep(1);
            x.day(1);
            return x;
        };
        refuse(notKept, "goBack(0)", NOT, x -> x.goBack(0));
    }

    // ---- what is asked or tried

    static void promise5ToldChangesNothing() {
        for (int what = 0; what <= 21; what++) {
            int asked = what;
            ask("told(" + what + ")", x -> x.told(asked));
        }
    }

    static void promise9NeedsChangesNothing() {
        ask("needs(2, 1)", x -> x.needs(2, 1));
        ask("needs(0, 1)", x -> x.needs(0, 1));
    }

    static void promise18LookChangesNothing() {
        ask("look(1, 2, true)", x -> x.look(1, 2, true));
    }

    static void promise19TogetherChangesNothing() {
        ask("together(6)", x -> x.together(6));
        ask("together(7)", x -> x.together(7));
    }

    static void promise20TurnsChangesNothing() {
        ask("turns(6, 0)", x -> x.turns(6, 0));
        ask("turns(6, 1)", x -> x.turns(6, 1));
        ask("turns(7, 0)", x -> x.turns(7, 0));
    }

    static void promise21ClearChangesNothing() {
        ask("clear(60, 99)", x -> x.clear(60, 99));
    }

    static void promise25JudgeChangesNothing() {
        ask("judge()", x -> x.judge());
    }

    // ---- no call throws

    private static final int[] ANY = {LOW, LOW + 1, -1000000001, -257, -2, -1, 0, 1, 2, 3, 4, 5, 6, 9, 10, 11, 22, 31, 32, 60, 61, 255, 1023, 1024, FAR};

    private static final Edges.Maker[] MAKERS = {
        FlagSignals::new, RefusalEdgesTest::busy, RefusalEdgesTest::fullText, () -> Edges.ship("l1 0;"),
        () -> Edges.ship("l3 3;" + Edges.many("f3 4 4;", 10) + Edges.many("e9,8,9,8;", 10)),
    };

    /** What comes of it does not matter here, but all answers are 0 and more, NONE, a fault or a refusal. */
    private static void fits(String what, int answer) {
        boolean refused = answer <= UNKNOWN && answer >= FULL;
        Edges.due(what + " = " + answer, refused || answer == NONE || answer >= 0 ? 1 : 0, 1);
    }

    static void promise1NoCallThrowsForOneNumber() {
        for (Edges.Maker maker : MAKERS) {
            for (int v : ANY) {
                fits("feed", maker.make().feed(v));
                fits("told", maker.make().told(v));
                fits("haul", maker.make().haul(v));
                fits("day", maker.make().day(v));
                fits("sew", maker.make().sew(v));
                fits("drift", maker.make().drift(v));
                fits("together", maker.make().together(v));
                fits("seed", maker.make().seed(v));
                fits("keep", maker.make().keep(v));
                fits("goBack", maker.make().goBack(v));
                fits("weather", maker.make().weather(v, v % 2 == 0));
                fits("anew", maker.make().anew(v, v, v, v));
            }
        }
    }

    static void promise1NoCallThrowsForTwoNumbers() {
        for (Edges.Maker maker : MAKERS) {
            for (int v : ANY) {
                FlagSignals x = maker.make();
                for (int w : ANY) {
                    fits("flag", x.flag(v, w));
                    fits("signal", x.signal(v, w));
                    fits("line", x.line(v, w));
                    fits("needs", x.needs(v, w));
                    fits("look", x.look(v, w, true));
                    fits("turns", x.turns(v, w));
                    fits("clear", x.clear(v, w));
                    fits("hoist", x.hoist(v, w));
                    fits("read", x.read(v, w));
                    fits("write", x.write(v, w));
                }
            }
        }
    }

    public static void main(String[] args) throws IllegalAccessException {
        Edges.run(RefusalEdgesTest.class, 2, 5, 6, 7, 8, 9, 10, 11, 12, 13, 14, 15, 16, 17, 18, 19, 20, 21, 22, 23, 25, 26, 27, 28);
    }
}
