/** For each promise: ordinary inputs, edges, wrong inputs; what is due is worked out by hand, or (some of BARK) taken from the shared runs. */
public final class PromiseTest {
    private static final int NONE = -1, UNKNOWN = -1000000001, OUTSIDE = -1000000002, NOT = -1000000003, FULL = -1000000004;
    private static final int FAR = Integer.MAX_VALUE, LOW = Integer.MIN_VALUE;

    // Two LINES, two SUBSTITUTES, six FLAGS, nine SIGNALS.
    private static final String BARK =
            "l2 2;f0 3 0;f0 4 1;f1 2 0;f2 2 1;f3 2 1;f0 2 2;e0,1;e1,0;e2,2;e3,4,3;e5,5,5;e4,3;e0;e1;e5,2;";
    // Three LINES, three SUBSTITUTES, one SIGNAL that takes them all.
    private static final String CUTTER = "l3 3;f0 0 0;f1 1 2;e0,0,0,0;e0;e1;e0,1,0,1;";

    private static int wrong = 0;

    private static void due(String what, int got, int want) {
        if (got != want) {
            wrong++;
            System.out.println(what + " answered " + got + ", due is " + want);
        }
    }

    private static int tell(FlagSignals x, String text) {
        for (int i = 0; i < text.length(); i++) x.feed(text.charAt(i));
        return x.ship();
    }

    private static FlagSignals ship(String text) {
        FlagSignals x = new FlagSignals();
        tell(x, text);
        return x;
    }

    private static void faulty(String text, int number, int at) {
        FlagSignals x = new FlagSignals();
        due("ship() of '" + text + "'", tell(x, text), -10 - number);
        due("fault() of '" + text + "'", x.fault(), at);
        due("told(4) behind '" + text + "'", x.told(4), 0);
        due("told(0) behind '" + text + "'", x.told(0), 0);
    }

    private static void good(String text, int signals) {
        FlagSignals x = new FlagSignals();
        due("ship() of '" + text + "'", tell(x, text), signals);
        due("fault() of '" + text + "'", x.fault(), NONE);
    }

    private static void constants() {
        due("NONE", FlagSignals.NONE, NONE);
        due("UNKNOWN", FlagSignals.UNKNOWN, UNKNOWN);
        due("OUTSIDE", FlagSignals.OUTSIDE, OUTSIDE);
        due("NOT", FlagSignals.NOT, NOT);
        due("FULL", FlagSignals.FULL, FULL);
    }

    private static void promise1NewObject() {
        FlagSignals x = new FlagSignals();
        int[] told = {0, 0, 0, 0, 0, 0, 0, 0, 0, 0, 0, 0, 0, 0, NONE, NONE, 0, 6, 63, NONE, 0, 0};
        for (int what = 0; what < told.length; what++) due("1: told(" + what + ")", x.told(what), told[what]);
        due("1: fault", x.fault(), NONE);
        due("1: flag", x.flag(0, 0), UNKNOWN);
        due("1: signal", x.signal(0, 0), UNKNOWN);
        due("1: line", x.line(0, 0), UNKNOWN);
        due("1: needs", x.needs(0, 1), UNKNOWN);
        due("1: hoist", x.hoist(0, 0), UNKNOWN);
        due("1: haul", x.haul(0), UNKNOWN);
        due("1: day", x.day(1), NOT);
        due("1: sew", x.sew(0), UNKNOWN);
        due("1: anew", x.anew(0, 0, 0, 0), UNKNOWN);
        due("1: weather", x.weather(0, true), NOT);
        due("1: drift", x.drift(1), NOT);
        due("1: undo", x.undo(), NOT);
        due("1: look", x.look(0, 0, true), UNKNOWN);
        due("1: together of none", x.together(0), 1);
        due("1: together", x.together(1), UNKNOWN);
        due("1: turns", x.turns(1, 0), UNKNOWN);
        due("1: read", x.read(0, 0), UNKNOWN);
        due("1: write", x.write(0, NONE), UNKNOWN);
        due("1: tear", x.tear(), 0);
        due("1: judge", x.judge(), NONE);
        due("1: goBack", x.goBack(0), NOT);
        due("1: keep", x.keep(0), 1);
        due("1: seed", x.seed(9), 0);
        due("1: goBack kept", x.goBack(0), 1);
        due("1: seed of the image", x.seed(0), 0);
    }

    private static void promise2Feed() {
        FlagSignals x = new FlagSignals();
        due("2: below", x.feed(-1), OUTSIDE);
        due("2: above", x.feed(256), OUTSIDE);
        due("2: far", x.feed(LOW), OUTSIDE);
        due("2: least", x.feed(0), 1);
        due("2: greatest", x.feed(255), 2);
        for (int i = 3; i <= 240; i++) due("2: letter " + i, x.feed('x'), i);
        due("2: full", x.feed('x'), FULL);
        due("2: outside comes ahead of full", x.feed(256), OUTSIDE);
        due("2: refused changes nothing", x.told(4), 240);
        due("2: ship", x.ship(), -11);
        due("2: empty again", x.feed('l'), 1);
    }

    private static void promise3Ship() {
        good("", 0);
        good("   ", 0);
        good("l1 0;", 0);
        good("  l 001 000 ; f 3 4 004;  e 0 , 0 ,0,0 ;  ", 1);
        good("l3 3;f3 4 4;e0;", 1);
        good(BARK, 9);
        FlagSignals x = ship(BARK);
        x.seed(77);
        x.hoist(0, 0);
        x.day(5);
        x.weather(2, false);
        x.read(0, 0);
        x.write(0, 0);
        x.keep(0);
        x.day(1);
        due("3: a fault leaves all else", tell(x, "l1 0"), -11);
        due("3: days stay", x.told(5), 6);
        due("3: reads stay", x.told(16), 1);
        due("3: undone stays", x.told(21), 1);
        due("3: a ship", tell(x, CUTTER), 4);
        due("3: day", x.told(5), 0);
        due("3: haze", x.told(6), 0);
        due("3: wind", x.told(7), 1);
        due("3: torn", x.told(9), 0);
        due("3: free", x.told(8), 3);
        due("3: wear", x.flag(0, 3), 0);
        due("3: line", x.line(0, 0), NONE);
        due("3: read", x.told(16), 0);
        due("3: book", x.told(20), 0);
        due("3: undone", x.told(21), 0);
        due("3: image", x.goBack(0), NOT);
        x.hoist(0, 0);
        tell(x, CUTTER);
        due("3: substitutes are free", x.needs(0, 4), 23);
        due("3: no ship", x.ship(), 0);
        for (int what = 0; what <= 3; what++) due("3: no ship, told(" + what + ")", x.told(what), 0);
        due("3: no wind", x.told(7), 0);
        due("3: seed stays", x.seed(0), 77);
    }

    private static void promise4Fault() {
        faulty("f0 0 0;", 1, 0);
        faulty("  x", 1, 2);
        faulty("7", 1, 0);
        faulty("l", 1, 1);
        faulty("l1 0", 1, 4);
        faulty("l1 0  ", 1, 6);
        faulty("l1;", 1, 2);
        faulty("l1,0;", 1, 2);
        faulty("l1 0;;", 1, 5);
        faulty("l1 0;F0 0 0;", 1, 5);
        faulty("l1 0 0;", 1, 5);
        faulty("l1 0 1234;", 1, 5);
        faulty("l l", 1, 2);
        faulty("l0 0;", 2, 1);
        faulty("l4 0;", 2, 1);
        faulty("l12;", 2, 1);
        faulty("l1 4x", 2, 3);
        faulty("l0001 0;", 2, 1);
        faulty("l99999999999999999 0;", 2, 1);
        faulty("l1 0;l1 0;", 3, 5);
        faulty("l1 0;f4 0 0;", 2, 6);
        faulty("l1 0;f0 5 0;", 2, 8);
        faulty("l1 0;f0 0 5;", 2, 10);
        faulty("l1 0;f0 0;", 1, 9);
        faulty("l1 0;e0;", 2, 6);
        faulty("l1 0;f0 0 0;e1;", 2, 13);
        faulty("l1 0;f0 0 0;e;", 1, 13);
        faulty("l1 0;f0 0 0;e0,;", 1, 15);
        faulty("l1 0;f0 0 0;e0 0;", 1, 15);
        faulty("l1 0;f0 0 0;e0,1;", 2, 15);
        faulty("l1 0;f0 0 0;e0,0,0,0,0;", 1, 20);
        faulty("l1 0;f0 0 0;e0,0,0,0,9", 1, 20);
        faulty("l1 0;f0 0 0;e0", 1, 14);
        StringBuilder flags = new StringBuilder("l1 0;");
        for (int i = 0; i < 10; i++) flags.append("f0 0 0;");
        good(flags.toString(), 0);
        faulty(flags + "f0 0 0;", 3, 75);
        faulty(flags + "fx", 3, 75);
        StringBuilder signals = new StringBuilder(flags);
        for (int i = 0; i < 10; i++) signals.append("e9;");
        good(signals.toString(), 10);
        faulty(signals + "e9;", 3, 105);
        FlagSignals x = ship("q");
        due("4: of the latest", x.fault(), 0);
        x.ship();
        due("4: gone with the next", x.fault(), NONE);
    }

    private static void promise5Told() {
        FlagSignals x = ship(BARK);
        int[] fresh = {2, 2, 6, 9, 0, 0, 0, 1, 63, 0, 511, 511, 0, 5, 0, NONE, 0, 6, 63, 0, 0, 0};
        for (int what = 0; what < fresh.length; what++) due("5: told(" + what + ")", x.told(what), fresh[what]);
        due("5: below", x.told(-1), OUTSIDE);
        due("5: above", x.told(22), OUTSIDE);
        due("5: far", x.told(LOW), OUTSIDE);
        x.feed('l');
        due("5: letters", x.told(4), 1);
        x.hoist(0, 4);
        x.day(5);
        due("5: free", x.told(8), 31);
        due("5: torn while it flies", x.told(9), 32);
        // FLAG 5 and both SUBSTITUTES are up: SIGNALS 2, 3 (a SUBSTITUTE), 4, 8 (FLAG 5) cannot go up.
        due("5: ready", x.told(10), 511 - 4 - 8 - 16 - 256);
        due("5: clear without FLAG 5", x.told(11), 511 - 16 - 256);
        due("5: undone", x.told(21), 2);
        // Sewn anew FLAG 5 is FREE and its two SIGNALS are back; in the plainest pattern they are clear, too.
        due("5: better mends", x.told(15), 5000);
        clearestAndAsk();
        better();
    }

    private static void clearestAndAsk() {
        // Halved of 0 and plain 0 look alike without wind: clear in weathers 1, 3, 5 alone.
        FlagSignals x = ship("l1 0;f1 0 2;f0 0 0;e0;e1;");
        due("5: clearest", x.told(12), 1);
        due("5: ask", x.told(19), 0);
        x.read(0, 1);
        due("5: which", x.told(18), 1 + 4 + 16);
        due("5: how many", x.told(17), 3);
        due("5: none parts", x.told(19), NONE);
        // Both cannot go up once they are torn: then nothing looks like anything, in no weather.
        x.hoist(0, 0);
        x.day(5);
        due("5: torn is not read", x.told(18), 0);
        // Two looks of three parts: SIGNAL 1 parts 6 into 3 and 3, SIGNAL 3 into 4 and 2.
        FlagSignals y = ship("l1 0;f0 0 0;f1 0 2;f0 2 2;f2 2 0;e2;e1;e0;e3;");
        due("5: ask for the least of the greatest", y.told(19), 1);
        // Crossed of 2 is read for plain 2: fog, with wind or without; SIGNAL 2 tells by its like, 3.
        FlagSignals fog = ship("l1 0;f2 2 0;f0 2 2;f1 0 2;f0 0 0;e0;e1;e2;e3;");
        fog.read(0, 1);
        due("5: fog", fog.told(18), 16 + 32);
        due("5: ask for the wind", fog.told(19), 2);
        // SIGNAL 0 is alone in all weathers; 1 and 2 part alike, the least of them is asked.
        FlagSignals z = ship("l1 0;f0 3 3;f1 0 2;f0 0 0;e0;e1;e2;");
        due("5: ask for the least of like ones", z.told(19), 1);
        due("5: most of like ones the least", z.told(13), 1);
        due("5: needed of like ones the least", z.told(14), 0);
        due("5: needed without signals", ship("l1 0;f0 0 0;f0 0 0;").told(14), 0);
        due("5: each counts once", ship("l1 3;f0 0 0;f0 1 1;e0,0,0;e1;e1;").told(14), 1);
        due("5: needed without flags", ship("l1 0;").told(14), NONE);
        due("5: better without flags", ship("l1 0;").told(15), NONE);
        due("5: the most of three", ship("l3 0;f0 0 0;f0 1 1;f0 2 2;f0 3 3;e0,1;e0;e1;e2;e3;").told(13), 2 + 4 + 8);
    }

    private static void better() {
        FlagSignals x = ship("l1 0;f0 0 0;f0 0 0;e0;e1;");
        due("5: none clear", x.told(11), 0);
        due("5: better by another colour", x.told(15), 10);
        x.hoist(0, 0);
        due("5: better though it flies", x.told(15), 10);
        x.haul(0);
        due("5: anew as told", x.anew(0, 0, 1, 0), 3);
        due("5: no better than all", x.told(15), NONE);
        x.weather(1, true);
        due("5: in haze 1 is 0", x.told(11), 0);
        due("5: better in haze", x.told(15), 20);
        // Both FLAGS twice, so that one anew leaves the other pair alike.
        FlagSignals y = ship("l1 0;f0 0 0;f0 0 0;e0;e0;e1;");
        due("5: one of three", y.told(15), 10);
        FlagSignals z = ship("l1 0;f0 0 0;e0;e0;");
        due("5: nothing helps twins", z.told(15), NONE);
    }

    private static void promise6Flag() {
        FlagSignals x = ship(BARK);
        int[] fourth = {2, 2, 1, 0, NONE, 0, 61};
        for (int what = 0; what < fourth.length; what++) due("6: flag(3, " + what + ")", x.flag(3, what), fourth[what]);
        due("6: plain shows A alone", x.flag(0, 6), 18);
        due("6: B as told", x.flag(0, 2), 0);
        x.weather(1, true);
        due("6: in haze", x.flag(3, 6), 60);
        x.weather(2, true);
        due("6: in fog", x.flag(3, 6), 12);
        x.hoist(1, 3);
        x.day(4);
        due("6: wear", x.flag(3, 3), 4);
        due("6: not torn yet", x.flag(3, 5), 0);
        due("6: line", x.flag(3, 4), 1);
        x.day(2);
        due("6: wear stops", x.flag(3, 3), 5);
        due("6: torn", x.flag(3, 5), 1);
        due("6: torn, and flies", x.flag(3, 4), 1);
        due("6: unknown", x.flag(6, 0), UNKNOWN);
        due("6: below", x.flag(-1, 0), UNKNOWN);
        due("6: outside", x.flag(0, 7), OUTSIDE);
        due("6: outside below", x.flag(0, -1), OUTSIDE);
        due("6: unknown comes ahead", x.flag(FAR, FAR), UNKNOWN);
    }

    private static void promise7Signal() {
        FlagSignals x = ship(BARK);
        int[] fourth = {3, 3, 4, 3, NONE, 8, NONE};
        for (int what = 0; what < fourth.length; what++) due("7: signal(3, " + what + ")", x.signal(3, what), fourth[what]);
        due("7: the fourth flag", ship(CUTTER).signal(3, 4), 1);
        x.hoist(0, 4);
        due("7: the least line", x.signal(4, 6), 0);
        x.haul(0);
        x.weather(1, true);
        due("7: like in haze", x.signal(0, 5), 3);
        due("7: like the other", x.signal(7, 5), 64 + 128);
        x.hoist(1, 0);
        due("7: line", x.signal(0, 6), 1);
        due("7: like though it flies", x.signal(0, 5), 3);
        x.day(5);
        due("7: torn looks like none", x.signal(0, 5), 0);
        due("7: unknown", x.signal(9, 0), UNKNOWN);
        due("7: below", x.signal(-1, 9), UNKNOWN);
        due("7: outside", x.signal(0, 7), OUTSIDE);
        due("7: outside below", x.signal(0, -1), OUTSIDE);
        // As long, but a SUBSTITUTE against a FLAG: not alike though the FLAGS look alike.
        FlagSignals y = ship("l1 1;f0 0 0;f0 0 0;e0,0;e0,1;e1,1;e0;e1;");
        due("7: substitutes look alike", y.signal(0, 5), 1 + 4);
        due("7: a substitute is no flag", y.signal(1, 5), 2);
        due("7: not so long", y.signal(3, 5), 8 + 16);
    }

    private static void promise8Line() {
        FlagSignals x = ship(CUTTER);
        for (int what = 0; what <= 4; what++) due("8: empty", x.line(2, what), NONE);
        x.hoist(2, 0);
        int[] row = {0, 0, 21, 22, 23};
        for (int what = 0; what <= 4; what++) due("8: line(2, " + what + ")", x.line(2, what), row[what]);
        x.haul(2);
        x.hoist(0, 3);
        int[] other = {3, 0, 1, 21, 22};
        for (int what = 0; what <= 4; what++) due("8: line(0, " + what + ")", x.line(0, what), other[what]);
        due("8: unknown", x.line(3, 0), UNKNOWN);
        due("8: below", x.line(-1, 0), UNKNOWN);
        due("8: outside", x.line(0, 5), OUTSIDE);
        due("8: outside below", x.line(0, -1), OUTSIDE);
        due("8: unknown comes ahead", x.line(3, 5), UNKNOWN);
        due("8: a line less", ship(BARK).line(2, 0), UNKNOWN);
    }

    private static void promise9Needs() {
        FlagSignals x = ship(CUTTER);
        int[] row = {0, 21, 22, 23};
        for (int i = 1; i <= 4; i++) due("9: needs(0, " + i + ")", x.needs(0, i), row[i - 1]);
        due("9: not so long", x.needs(1, 2), NONE);
        x.hoist(0, 1);
        for (int i = 1; i <= 4; i++) due("9: the flag is away", x.needs(0, i), NONE);
        due("9: another flag", x.needs(2, 1), 1);
        x.haul(0);
        x.hoist(0, 0);
        due("9: what flies", x.needs(1, 1), NONE);
        due("9: unknown", x.needs(4, 1), UNKNOWN);
        due("9: below", x.needs(-1, 1), UNKNOWN);
        due("9: place 0", x.needs(0, 0), OUTSIDE);
        due("9: place 5", x.needs(0, 5), OUTSIDE);
        due("9: unknown comes ahead", x.needs(4, 5), UNKNOWN);
        // One SUBSTITUTE: it repeats the top alone.
        FlagSignals y = ship("l1 1;f0 0 0;f0 1 1;e0,1,1;e1,0,1;e0,0,0;");
        due("9: no second substitute", y.needs(0, 1), NONE);
        due("9: the first", y.needs(1, 3), 21);
        due("9: once only", y.needs(2, 2), NONE);
        // The second SUBSTITUTE repeats place 2, also where that is a SUBSTITUTE itself.
        FlagSignals z = ship("l1 2;f0 0 0;f0 1 1;e0,1,1;e0,0,0;e0,1,1,0;e0,1,1,1;");
        due("9: the second", z.needs(0, 3), 22);
        due("9: over again", z.needs(1, 3), 22);
        due("9: the first is still there", z.needs(2, 4), 21);
        due("9: a third is not", z.needs(3, 4), NONE);
    }

    private static void promise10Hoist() {
        FlagSignals x = ship(BARK);
        due("10: took", x.hoist(0, 4), 2);
        due("10: in use", x.hoist(0, 0), NOT);
        due("10: flag away", x.hoist(1, 8), NOT);
        due("10: substitute away", x.hoist(1, 2), NOT);
        due("10: refused changes nothing", x.told(21), 1);
        due("10: none taken", x.hoist(1, 0), 0);
        due("10: unknown line", x.hoist(2, 0), UNKNOWN);
        due("10: unknown signal", x.hoist(0, 9), UNKNOWN);
        due("10: below", x.hoist(-1, 0), UNKNOWN);
        due("10: none", x.hoist(0, NONE), UNKNOWN);
        due("10: all substitutes", ship(CUTTER).hoist(0, 0), 3);
        x.day(5);
        x.haul(1);
        due("10: torn", x.hoist(1, 6), NOT);
    }

    private static void promise11Haul() {
        FlagSignals x = ship(BARK);
        due("11: not in use", x.haul(0), NOT);
        x.hoist(0, 4);
        x.day(2);
        due("11: signal", x.haul(0), 4);
        due("11: line", x.line(0, 1), NONE);
        due("11: free", x.told(8), 63);
        due("11: substitutes are free", x.needs(4, 3), 22);
        due("11: wear stays", x.flag(5, 3), 2);
        x.hoist(1, 4);
        x.day(3);
        due("11: again", x.haul(1), 4);
        due("11: torn stays", x.told(8), 31);
        due("11: unknown", x.haul(2), UNKNOWN);
        due("11: below", x.haul(-1), UNKNOWN);
    }

    private static void promise12Day() {
        FlagSignals x = ship(BARK);
        due("12: none fly", x.day(60), 0);
        x.hoist(0, 0);
        due("12: four", x.day(4), 0);
        due("12: five", x.day(1), 3);
        x.haul(0);
        x.hoist(0, 4);
        due("12: all that are torn", x.day(60), 3 + 32);
        due("12: days", x.told(5), 125);
        due("12: zero", x.day(0), OUTSIDE);
        due("12: above", x.day(61), OUTSIDE);
        due("12: below", x.day(LOW), OUTSIDE);
        due("12: outside comes ahead", new FlagSignals().day(0), OUTSIDE);
        FlagSignals y = ship("l1 0;");
        for (int i = 0; i < 150; i++) y.day(60);
        due("12: 9000", y.told(5), 9000);
        due("12: not above yet", y.day(60), 0);
        due("12: full", y.day(1), FULL);
        due("12: full for draws", y.drift(1), FULL);
        due("12: outside comes ahead of full", y.day(61), OUTSIDE);
        due("12: refused changes nothing", y.told(5), 9060);
    }

    private static void promise13Sew() {
        FlagSignals x = ship(BARK);
        due("13: not torn", x.sew(0), NOT);
        x.hoist(0, 0);
        x.day(5);
        due("13: flies", x.sew(0), NOT);
        x.haul(0);
        due("13: wear was", x.sew(0), 5);
        due("13: wear", x.flag(0, 3), 0);
        due("13: torn", x.told(9), 2);
        due("13: free", x.told(8), 61);
        due("13: twice", x.sew(0), NOT);
        due("13: unknown", x.sew(6), UNKNOWN);
        due("13: below", x.sew(-1), UNKNOWN);
    }

    private static void promise14Anew() {
        FlagSignals x = ship(BARK);
        due("14: clear then", x.anew(1, 0, 3, 3), 4 + 8 + 16 + 32 + 256);
        due("14: kind", x.flag(1, 0), 0);
        due("14: A", x.flag(1, 1), 3);
        due("14: B", x.flag(1, 2), 3);
        due("14: the same again", x.anew(1, 0, 3, 3), 316);
        due("14: back", x.anew(1, 3, 4, 4), 511);
        x.hoist(0, 0);
        x.day(5);
        due("14: flies", x.anew(0, 0, 0, 0), NOT);
        x.haul(0);
        due("14: mends", x.anew(0, 1, 1, 1), 511 - 1 - 2 - 128);
        due("14: wear", x.flag(0, 3), 0);
        due("14: torn", x.told(9), 2);
        due("14: unknown", x.anew(6, 0, 0, 0), UNKNOWN);
        due("14: K", x.anew(0, 4, 0, 0), OUTSIDE);
        due("14: K below", x.anew(0, -1, 0, 0), OUTSIDE);
        due("14: A above", x.anew(0, 0, 5, 0), OUTSIDE);
        due("14: A below", x.anew(0, 0, -1, 0), OUTSIDE);
        due("14: B above", x.anew(0, 0, 0, 5), OUTSIDE);
        due("14: B below", x.anew(0, 0, 0, -1), OUTSIDE);
        due("14: unknown comes ahead", x.anew(-1, 9, 9, 9), UNKNOWN);
        x.hoist(0, 6);
        due("14: outside comes ahead of not", x.anew(0, 4, 0, 0), OUTSIDE);
        x.undo();
        x.undo();
        due("14: undone, K", x.flag(0, 0), 0);
        due("14: undone, A", x.flag(0, 1), 3);
        due("14: undone, wear", x.flag(0, 3), 5);
    }

    private static void promise15Weather() {
        FlagSignals x = ship(BARK);
        due("15: it is so", x.weather(0, true), NOT);
        due("15: haze", x.weather(1, true), 316);
        due("15: haze told", x.told(6), 1);
        due("15: fog, no wind", x.weather(2, false), 28);
        due("15: wind told", x.told(7), 0);
        due("15: it is so again", x.weather(2, false), NOT);
        due("15: wind alone", x.weather(2, true), 316);
        due("15: above", x.weather(3, true), OUTSIDE);
        due("15: below", x.weather(-1, true), OUTSIDE);
        due("15: outside comes ahead", new FlagSignals().weather(3, true), OUTSIDE);
        due("15: no ship", new FlagSignals().weather(0, false), NOT);
    }

    private static void promise16Drift() {
        // SEED 0: 12345, then 12345 * 1103515245 and 12345, left over by 2 to the 31, is 1406932606.
        FlagSignals x = ship("l1 0;");
        due("16: nothing to draw of", x.drift(1), 0);
        // 12345 / 65536 is 0: a HOIST, but there are no SIGNALS: two DRAWS.
        due("16: two draws", x.seed(0), 1406932606);
        due("16: day", x.told(5), 1);
        due("16: undone at once", x.undo(), 0);
        due("16: as ahead", x.told(5), 0);
        // With one SIGNAL a third DRAW, and it is HOISTED: torn behind the fifth DAY at the latest.
        FlagSignals y = ship("l1 0;f0 0 0;e0;");
        due("16: hoists", y.drift(1), 0);
        due("16: flies", y.line(0, 0), 0);
        due("16: the day comes behind", y.flag(0, 3), 1);
        due("16: three draws", y.seed(0), 654583775);
        FlagSignals z = ship(BARK);
        z.seed(5);
        due("16: twenty", z.drift(20), 35);
        due("16: haze", z.told(6), 1);
        due("16: wind", z.told(7), 0);
        due("16: one to be undone", z.told(21), 1);
        due("16: seed", z.seed(5), 615103023);
        due("16: undo", z.undo(), 0);
        due("16: seed stays", z.seed(6), 5);
        due("16: zero", z.drift(0), OUTSIDE);
        due("16: above", z.drift(61), OUTSIDE);
        due("16: refused draws nothing", z.seed(0), 6);
        due("16: outside comes ahead", new FlagSignals().drift(61), OUTSIDE);
    }

    private static void promise17Undo() {
        FlagSignals x = ship(BARK);
        due("17: none", x.undo(), NOT);
        x.hoist(0, 4);
        x.day(5);
        x.haul(0);
        x.sew(5);
        x.anew(2, 3, 3, 3);
        x.weather(1, false);
        x.drift(60);
        due("17: drift", x.undo(), 6);
        due("17: weather", x.undo(), 5);
        due("17: wind again", x.told(7), 1);
        due("17: no haze again", x.told(6), 0);
        due("17: anew", x.undo(), 4);
        due("17: halved again", x.flag(2, 6), 35);
        due("17: sew", x.undo(), 3);
        due("17: torn again", x.told(9), 32);
        due("17: haul", x.undo(), 2);
        due("17: flies again", x.line(0, 3), 22);
        due("17: day", x.undo(), 1);
        due("17: not torn again", x.told(9), 0);
        due("17: days", x.told(5), 0);
        due("17: hoist", x.undo(), 0);
        due("17: free again", x.told(8), 63);
        due("17: substitutes free again", x.needs(4, 3), 22);
        due("17: none more", x.undo(), NOT);
        for (int i = 0; i < 20; i++) x.day(1);
        due("17: sixteen", x.told(21), 16);
        for (int i = 15; i >= 0; i--) due("17: undo " + i, x.undo(), i);
        due("17: the oldest are lost", x.told(5), 4);
        due("17: no more", x.undo(), NOT);
        x.read(0, 0);
        x.write(0, 0);
        x.seed(3);
        due("17: what was read is not undone", x.undo(), NOT);
    }

    private static void promise18Look() {
        FlagSignals x = ship("l1 0;f0 4 1;f1 4 1;f2 4 1;f3 1 4;");
        int[][] looks = { // by FLAGS; by WEATHERS: none without, with wind, haze, fog
            {24, 24, 18, 18, 18, 18},
            {24, 46, 18, 40, 18, 40},
            {71, 71, 65, 65, 18, 18},
            {84, 84, 78, 78, 0, 0},
        };
        for (int f = 0; f < 4; f++) {
            for (int w = 0; w < 6; w++) due("18: look(" + f + ") in " + w, x.look(f, w / 2, w % 2 == 1), looks[f][w]);
        }
        due("18: unknown", x.look(4, 0, true), UNKNOWN);
        due("18: below", x.look(-1, 0, true), UNKNOWN);
        due("18: haze 3", x.look(0, 3, true), OUTSIDE);
        due("18: haze below", x.look(0, -1, true), OUTSIDE);
        due("18: unknown comes ahead", x.look(4, 3, true), UNKNOWN);
        due("18: changes nothing", x.told(6), 0);
    }

    private static void promise19Together() {
        FlagSignals x = ship(BARK);
        due("19: none", x.together(0), 1);
        due("19: one", x.together(16), 1);
        due("19: two", x.together(144), 1);
        due("19: the same flags", x.together(3), 0);
        due("19: the same substitute", x.together(4 + 8), 0);
        due("19: more than lines", x.together(4 + 64 + 128), 0);
        due("19: three lines", ship("l3 0;f0 0 0;f0 1 1;f0 2 2;e0;e1;e2;").together(7), 1);
        x.hoist(0, 0);
        due("19: what flies is free then", x.together(1), 1);
        x.day(5);
        due("19: what is torn is not", x.together(1), 0);
        due("19: unknown", x.together(512), UNKNOWN);
        due("19: below", x.together(-1), UNKNOWN);
        due("19: lowest", x.together(LOW), UNKNOWN);
    }

    private static void promise20Turns() {
        FlagSignals x = ship(BARK);
        due("20: none", x.turns(0, 0), 0);
        due("20: no first", x.turns(0, 1), NONE);
        due("20: all", x.turns(511, 0), 5);
        due("20: the first of all", x.turns(511, 1), 1);
        // SIGNALS 0 and 2 together, then 1: or 0 first, and 1 with 2 behind.
        due("20: three", x.turns(7, 0), 2);
        due("20: the least first", x.turns(7, 1), 1);
        due("20: both at once", x.turns(5, 0), 1);
        due("20: the first is all", x.turns(5, 1), 5);
        x.hoist(0, 4);
        due("20: lines in use do not matter", x.turns(511, 0), 5);
        x.day(5);
        due("20: one cannot", x.turns(16, 0), NONE);
        due("20: one of many cannot", x.turns(17, 1), NONE);
        // 0 with 2, then 1 with 3: the SUBSTITUTE of 2 and 3 is there in each turn anew.
        due("20: the others can", x.turns(15, 0), 2);
        due("20: unknown", x.turns(512, 0), UNKNOWN);
        due("20: below", x.turns(LOW, 0), UNKNOWN);
        due("20: outside", x.turns(1, 2), OUTSIDE);
        due("20: outside below", x.turns(0, -1), OUTSIDE);
        due("20: unknown comes ahead", x.turns(-1, 2), UNKNOWN);
        String ten = "f0 0 0;f0 0 0;f0 0 0;f0 0 0;f0 0 0;f0 0 0;f0 0 0;f0 0 0;f0 0 0;f0 0 0;e0;e1;e2;e3;e4;e5;e6;e7;e8;e9;";
        due("20: ten by three", ship("l3 0;" + ten).turns(1023, 0), 4);
        due("20: the first may be small", ship("l3 0;" + ten).turns(1023, 1), 1);
        due("20: nine by three", ship("l3 0;" + ten).turns(511, 1), 7);
        due("20: ten by one", ship("l1 0;" + ten).turns(1023, 0), 10);
    }

    private static void promise21Clear() {
        FlagSignals x = new FlagSignals();
        due("21: no days", x.clear(0, 0), 1000000000);
        due("21: never", x.clear(1, 0), 0);
        due("21: once", x.clear(1, 37), 370000000);
        due("21: three", x.clear(3, 90), 729000000);
        due("21: cut each time", x.clear(6, 33), 1291467);
        due("21: always", x.clear(60, 100), 1000000000);
        due("21: long", x.clear(60, 1), 0);
        due("21: n above", x.clear(61, 50), OUTSIDE);
        due("21: n below", x.clear(-1, 50), OUTSIDE);
        due("21: q above", x.clear(1, 101), OUTSIDE);
        due("21: q below", x.clear(1, -1), OUTSIDE);
    }

    private static void promise22Read() {
        FlagSignals x = ship(BARK);
        due("22: the same", x.read(8, 8), 1);
        due("22: all weathers", x.told(18), 63);
        due("22: another", x.read(0, 1), 2);
        due("22: in haze", x.told(18), 60);
        due("22: how many", x.told(17), 4);
        due("22: unknown", x.read(9, 0), UNKNOWN);
        due("22: unknown read", x.read(0, -1), UNKNOWN);
        for (int i = 3; i <= 8; i++) due("22: read " + i, x.read(0, 0), i);
        due("22: full", x.read(0, 0), FULL);
        due("22: unknown comes ahead of full", x.read(9, 9), UNKNOWN);
        due("22: told", x.told(16), 8);
        x.anew(1, 0, 0, 0);
        due("22: by how it is now", x.told(18), 0);
    }

    private static void promise23Write() {
        FlagSignals x = ship(BARK);
        due("23: none", x.write(0, NONE), 1);
        due("23: signal", x.write(1, 8), 2);
        due("23: unknown line", x.write(2, 0), UNKNOWN);
        due("23: unknown line, none", x.write(-1, NONE), UNKNOWN);
        due("23: unknown signal", x.write(0, 9), UNKNOWN);
        due("23: below none", x.write(0, -2), UNKNOWN);
        for (int i = 3; i <= 15; i++) due("23: entry " + i, x.write(0, NONE), i);
        due("23: full", x.write(0, NONE), FULL);
        due("23: unknown comes ahead of full", x.write(0, 9), UNKNOWN);
        due("23: told", x.told(20), 15);
    }

    private static void promise24Tear() {
        FlagSignals x = ship(BARK);
        due("24: nothing", x.tear(), 0);
        x.read(0, 1);
        x.read(0, 1);
        x.write(0, 3);
        due("24: both", x.tear(), 3);
        due("24: read", x.told(16), 0);
        due("24: book", x.told(20), 0);
        due("24: weathers", x.told(18), 63);
        due("24: judge", x.judge(), NONE);
        due("24: not to be undone", x.undo(), NOT);
    }

    private static void promise25Judge() {
        FlagSignals x = ship(BARK);
        due("25: empty", x.judge(), NONE);
        x.write(0, NONE);
        due("25: true", x.judge(), NONE);
        x.write(1, 0);
        x.write(0, 3);
        due("25: the first", x.judge(), 1);
        x.hoist(1, 0);
        due("25: the next", x.judge(), 2);
        x.hoist(0, 4);
        due("25: none was said", x.judge(), 0);
        x.undo();
        due("25: undone", x.judge(), 2);
        x.keep(0);
        x.haul(1);
        x.goBack(0);
        due("25: the book is not in images", x.told(20), 3);
    }

    private static void promise26Seed() {
        FlagSignals x = new FlagSignals();
        due("26: at first", x.seed(FAR), 0);
        due("26: greatest", x.seed(0), FAR);
        due("26: below", x.seed(-1), OUTSIDE);
        due("26: lowest", x.seed(LOW), OUTSIDE);
        due("26: refused changes nothing", x.seed(1), 0);
        tell(x, "l1 0;");
        x.seed(FAR);
        x.drift(1);
        // 2147483647 stands for -1: -1103515245 and 12345, left over by 2 to the 31, is 1043980748; / 65536 is 15929; of 5: 4.
        // There are no FLAGS: so one DRAW more, of LINES.
        due("26: from the greatest", x.seed(0), (int) ((1043980748L * 1103515245L + 12345L) % 2147483648L));
    }

    private static void promise27Keep() {
        FlagSignals x = ship(BARK);
        x.hoist(0, 4);
        due("27: keep", x.keep(1), 1);
        due("27: nothing can be undone", x.undo(), NOT);
        due("27: told", x.told(21), 0);
        due("27: the other is not kept", x.goBack(0), NOT);
        x.day(3);
        due("27: over it", x.keep(1), 1);
        x.day(1);
        x.goBack(1);
        due("27: the latest", x.told(5), 3);
        due("27: unknown", x.keep(2), UNKNOWN);
        due("27: below", x.keep(-1), UNKNOWN);
        x.day(1);
        due("27: refused changes nothing", x.keep(7), UNKNOWN);
        due("27: still to be undone", x.told(21), 1);
    }

    private static void promise28GoBack() {
        FlagSignals x = ship(BARK);
        x.seed(11);
        x.hoist(0, 4);
        x.day(5);
        x.weather(2, false);
        x.anew(0, 1, 1, 1);
        x.keep(0);
        x.haul(0);
        x.sew(5);
        x.anew(0, 2, 2, 2);
        x.weather(0, true);
        x.seed(12);
        x.read(0, 0);
        x.keep(1);
        x.day(9);
        due("28: back", x.goBack(0), 1);
        due("28: nothing can be undone", x.undo(), NOT);
        due("28: days", x.told(5), 5);
        due("28: haze", x.told(6), 2);
        due("28: wind", x.told(7), 0);
        due("28: torn", x.told(9), 32);
        due("28: line", x.line(0, 2), 21);
        due("28: substitutes", x.needs(2, 2), NONE);
        due("28: kind", x.flag(0, 0), 1);
        due("28: seed", x.seed(0), 11);
        due("28: what was read stays", x.told(16), 1);
        due("28: the other", x.goBack(1), 1);
        due("28: its seed", x.seed(0), 12);
        due("28: its kind", x.flag(0, 0), 2);
        due("28: its line", x.line(0, 0), NONE);
        due("28: again", x.goBack(0), 1);
        due("28: an image stays as it was", x.told(9), 32);
        due("28: unknown", x.goBack(2), UNKNOWN);
        due("28: below", x.goBack(-1), UNKNOWN);
        due("28: not kept", ship(BARK).goBack(0), NOT);
    }

    public static void main(String[] args) {
        constants();
        promise1NewObject();
        promise2Feed();
        promise3Ship();
        promise4Fault();
        promise5Told();
        promise6Flag();
        promise7Signal();
        promise8Line();
        promise9Needs();
        promise10Hoist();
        promise11Haul();
        promise12Day();
        promise13Sew();
        promise14Anew();
        promise15Weather();
        promise16Drift();
        promise17Undo();
        promise18Look();
        promise19Together();
        promise20Turns();
        promise21Clear();
        promise22Read();
        promise23Write();
        promise24Tear();
        promise25Judge();
        promise26Seed();
        promise27Keep();
        promise28GoBack();
        System.out.println(wrong == 0 ? "the promises hold" : wrong + " answers are not as due");
        if (wrong != 0) System.exit(1);
    }
}
