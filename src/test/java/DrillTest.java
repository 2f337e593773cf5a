import java.util.ArrayList;
import java.util.List;
import java.util.Random;

/** Runs of calls by chance (always the same), each answer held against the Oracle's. */
public final class DrillTest {
    private static final int RUNS = 2500;
    private static int wrong = 0;

    private final Random chance;
    private final FlagSignals x = new FlagSignals();
    private final Oracle due = new Oracle();
    private final List<String> calls = new ArrayList<>();

    private DrillTest(int run) {
        chance = new Random(run);
    }

    private void same(String call, int got, int want) {
        calls.add(call + " -> " + got);
        if (got == want) return;
        wrong++;
        if (wrong <= 3) {
            System.out.println(due);
            for (String c : calls) System.out.println("  " + c);
        }
        System.out.println("  " + call + " answered " + got + ", the oracle says " + want);
    }

    private int upTo(int n) {
        return chance.nextInt(n + 1);
    }

    /** Mostly 0 to n less 1, now and then just outside or far off. */
    private int about(int n) {
        int odd = chance.nextInt(40);
        if (odd == 0) return -1;
        if (odd == 1) return n;
        if (odd == 2) return chance.nextInt();
        return n > 0 ? chance.nextInt(n) : 0;
    }

    private String shipText() {
        StringBuilder s = new StringBuilder();
        s.append('l').append(1 + upTo(2)).append(' ').append(upTo(3)).append(';');
        int flags = 1 + upTo(chance.nextInt(4) == 0 ? 10 : 8), signals = upTo(11);
        int kinds = upTo(3), colours = upTo(4);
        for (int f = 0; f < flags; f++) {
            s.append('f').append(upTo(kinds)).append(' ').append(upTo(colours)).append(' ').append(upTo(colours)).append(';');
        }
        for (int e = 0; e < signals; e++) {
            s.append('e').append(upTo(flags - 1));
            int more = upTo(3);
            int first = upTo(flags - 1);
            for (int i = 0; i < more; i++) s.append(',').append(chance.nextBoolean() ? first : upTo(flags - 1));
            s.append(';');
        }
        return s.toString();
    }

    private String spoil(String told) {
        StringBuilder s = new StringBuilder(told);
        int times = upTo(2);
        String signs = "lfe,;0123459 x";
        for (int i = 0; i < times; i++) {
            int at = upTo(s.length() - 1);
            char c = signs.charAt(chance.nextInt(signs.length()));
            int how = upTo(3);
            if (how == 0) s.setCharAt(at, c);
            if (how == 1) s.insert(at, c);
            if (how == 2) s.deleteCharAt(at);
            if (how == 3) s.setLength(at + 1);
            if (s.length() == 0) s.append(' ');
        }
        return s.toString();
    }

    private void tellShip(String told) {
        for (int i = 0; i < told.length(); i++) {
            int c = told.charAt(i);
            same("feed(" + c + ")", x.feed(c), due.feed(c));
        }
        same("ship()", x.ship(), due.ship());
        same("fault()", x.fault(), due.fault());
    }

    private void ask() {
        int signals = due.told(3), flags = due.told(2), lines = due.told(0);
        int a, b;
        switch (chance.nextInt(9)) {
            case 0: a = about(22); same("told(" + a + ")", x.told(a), due.told(a)); break;
            case 1: a = about(flags); b = about(7); same("flag(" + a + ", " + b + ")", x.flag(a, b), due.flag(a, b)); break;
            case 2: a = about(signals); b = about(7); same("signal(" + a + ", " + b + ")", x.signal(a, b), due.signal(a, b)); break;
            case 3: a = about(lines); b = about(5); same("line(" + a + ", " + b + ")", x.line(a, b), due.line(a, b)); break;
            case 4: a = about(signals); b = about(5); same("needs(" + a + ", " + b + ")", x.needs(a, b), due.needs(a, b)); break;
            case 5:
                a = about(flags); b = about(3);
                boolean wind = chance.nextBoolean();
                same("look(" + a + ", " + b + ", " + wind + ")", x.look(a, b, wind), due.look(a, b, wind));
                break;
            case 6: a = about(1 << signals) & about(1 << signals); same("together(" + a + ")", x.together(a), due.together(a)); break;
            case 7:
                a = about(1 << signals); b = about(2);
                if (chance.nextInt(3) > 0) a &= 255;
                same("turns(" + a + ", " + b + ")", x.turns(a, b), due.turns(a, b));
                break;
            default: a = about(61); b = about(101); same("clear(" + a + ", " + b + ")", x.clear(a, b), due.clear(a, b)); break;
        }
    }

    private void act() {
        int signals = due.told(3), flags = due.told(2), lines = due.told(0);
        int a, b;
        switch (chance.nextInt(18)) {
            case 0: case 1: case 2: case 3: case 4:
                a = about(lines); b = about(signals); same("hoist(" + a + ", " + b + ")", x.hoist(a, b), due.hoist(a, b)); break;
            case 5: case 6: a = about(lines); same("haul(" + a + ")", x.haul(a), due.haul(a)); break;
            case 7: a = chance.nextInt(6) == 0 ? about(61) : 1 + upTo(3); same("day(" + a + ")", x.day(a), due.day(a)); break;
            case 8: a = about(flags); same("sew(" + a + ")", x.sew(a), due.sew(a)); break;
            case 9:
                a = about(flags); b = about(4);
                int c = about(5), d = about(5);
                same("anew(" + a + ", " + b + ", " + c + ", " + d + ")", x.anew(a, b, c, d), due.anew(a, b, c, d));
                break;
            case 10:
                a = about(3);
                boolean wind = chance.nextBoolean();
                same("weather(" + a + ", " + wind + ")", x.weather(a, wind), due.weather(a, wind));
                break;
            case 11: a = chance.nextBoolean() ? about(61) : 1 + upTo(5); same("drift(" + a + ")", x.drift(a), due.drift(a)); break;
            case 12: same("undo()", x.undo(), due.undo()); break;
            case 13:
                a = about(signals); b = chance.nextBoolean() ? a : about(signals);
                same("read(" + a + ", " + b + ")", x.read(a, b), due.read(a, b));
                break;
            case 14:
                a = about(lines);
                b = chance.nextBoolean() ? due.line(a, 0) : about(signals);
                same("write(" + a + ", " + b + ")", x.write(a, b), due.write(a, b));
                same("judge()", x.judge(), due.judge());
                break;
            case 15: if (chance.nextInt(3) == 0) same("tear()", x.tear(), due.tear()); break;
            case 16: a = chance.nextInt(); same("seed(" + a + ")", x.seed(a), due.seed(a)); break;
            default:
                a = about(2);
                if (chance.nextBoolean()) same("keep(" + a + ")", x.keep(a), due.keep(a));
                else same("goBack(" + a + ")", x.goBack(a), due.goBack(a));
                break;
        }
    }

    private void allTold() {
        for (int what = -1; what <= 22; what++) same("told(" + what + ")", x.told(what), due.told(what));
    }

    private void run() {
        if (chance.nextInt(5) == 0) for (int i = 0; i < 20; i++) { ask(); act(); }
        String told = shipText();
        tellShip(chance.nextInt(3) == 0 ? spoil(told) : told);
        allTold();
        while (calls.size() < 490) {
            int dice = chance.nextInt(100);
            if (dice < 45) act();
            else ask();
            if (dice == 99 && calls.size() < 460) allTold();
        }
    }

    /** The text alone, many times, since it has so many ways to go wrong; what comes behind 512 calls is free. */
    private void runTexts() {
        while (calls.size() < 250) {
            tellShip(spoil(shipText().replace(";f", chance.nextBoolean() ? ";f" : " ; f ")));
            same("told(3)", x.told(3), due.told(3));
        }
    }

    public static void main(String[] args) {
        int runs = args.length > 0 ? Integer.parseInt(args[0]) : RUNS;
        for (int run = 0; run < runs; run++) new DrillTest(run).run();
        for (int run = 0; run < 3000; run++) new DrillTest(-1 - run).runTexts();
        System.out.println(wrong == 0 ? "the drills are as the oracle says" : wrong + " answers are not as the oracle says");
        if (wrong != 0) System.exit(1);
    }
}
