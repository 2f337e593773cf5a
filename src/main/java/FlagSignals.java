/** Signals by flags: one flag of each sort in the locker, a few substitutes, rows of flags at lines. */
public final class FlagSignals {
    public static final int NONE = -1, UNKNOWN = -1000000001, OUTSIDE = -1000000002, NOT = -1000000003, FULL = -1000000004;

    private static final int MOST_LETTERS = 240, MOST_LINES = 3, MOST_SUBSTITUTES = 3;
    private static final int MOST_FLAGS = 10, MOST_SIGNALS = 10, PLACES = 4;
    private static final int TOP_KIND = 3, TOP_COLOUR = 4, TOP_HAZE = 2, WEATHERS = 6;
    private static final int HALVED = 1, FOG = 2;
    private static final int TORN_AT = 5, MOST_DAYS_AT_ONCE = 60, LAST_DAY = 9000;
    private static final int MOST_READ = 8, MOST_ENTRIES = 15, MOST_UNDONE = 16, IMAGES = 2;
    private static final int SUBSTITUTE_PIECE = 20, SUBSTITUTE_LOOK = 200, NO_LOOK = 255;
    private static final int SETS = 1 << MOST_SIGNALS;
    private static final int PATTERNS = 100;
    private static final long BILLION = 1000000000L;

    private final Text text = new Text();
    private Ship ship = new Ship();
    private Ship draft = new Ship();
    private final Deck now = new Deck();
    private final Past past = new Past();
    private final Image[] images = new Image[IMAGES];
    private final Log log = new Log();
    private final Locker locker = new Locker();
    private final Watch watch = new Watch();
    private final Rota rota = new Rota();
    private final int[] likes = new int[WEATHERS * MOST_SIGNALS];
    private int faultAt = NONE;
    private int seedNow = 0;

    public FlagSignals() {
        for (int i = 0; i < images.length; i++) {
            images[i] = new Image();
        }
        now.rig(ship);
    }

    // ---- the ship

    public int feed(int letter) {
        if (letter < 0 || letter > 255) {
            return OUTSIDE;
        }
        return text.append(letter) ? text.count : FULL;
    }

    public int ship() {
        int number = text.parseInto(draft);
        faultAt = text.wrongAt;
        text.count = 0;
        if (number != 0) {
            return -10 - number;
        }
        Ship told = draft;
        draft = ship;
        ship = told;
        now.rig(ship);
        past.forget();
        for (int i = 0; i < images.length; i++) {
            images[i].kept = false;
        }
        log.wipe();
        return ship.signals;
    }

    public int fault() {
        return faultAt;
    }

    public int told(int what) {
        switch (what) {
            case 0: return ship.lines;
            case 1: return ship.substitutes;
            case 2: return ship.flags;
            case 3: return ship.signals;
            case 4: return text.count;
            case 5: return now.days;
            case 6: return now.haze;
            case 7: return now.wind;
            case 8: return now.freeFlags(ship);
            case 9: return now.torn;
            case 10: return readySignals();
            case 11: return clearNow();
            case 12: return clearest();
            case 13: return mostTogether();
            case 14: return neededFlag();
            case 15: return betterFlag();
            case 16: return log.reads;
            case 17: return Integer.bitCount(possibleWeathers());
            case 18: return possibleWeathers();
            case 19: return askedSignal();
            case 20: return log.entries;
            case 21: return past.count;
            default: return OUTSIDE;
        }
    }

    public int flag(int f, int what) {
        if (!ship.hasFlag(f)) {
            return UNKNOWN;
        }
        switch (what) {
            case 0: return now.kinds[f];
            case 1: return now.fores[f];
            case 2: return now.backs[f];
            case 3: return now.wear[f];
            case 4: return now.where[f];
            case 5: return has(now.torn, f) ? 1 : 0;
            case 6: return now.lookIn(f, now.haze, now.wind);
            default: return OUTSIDE;
        }
    }

    public int signal(int e, int what) {
        if (!ship.hasSignal(e)) {
            return UNKNOWN;
        }
        if (what < 0 || what > 6) {
            return OUTSIDE;
        }
        if (what == 0) {
            return ship.lengths[e];
        }
        if (what <= PLACES) {
            return ship.flagAt(e, what - 1);
        }
        if (what == 5) {
            watchIn(now.weatherNumber());
            return watch.likeOf(ship, e);
        }
        return now.lineOf(e);
    }

    public int line(int h, int what) {
        if (!ship.hasLine(h)) {
            return UNKNOWN;
        }
        if (what < 0 || what > PLACES) {
            return OUTSIDE;
        }
        return what == 0 ? now.flown[h] : now.places[h * PLACES + what - 1];
    }

    public int needs(int e, int i) {
        if (!ship.hasSignal(e)) {
            return UNKNOWN;
        }
        if (i < 1 || i > PLACES) {
            return OUTSIDE;
        }
        locker.open(now.freeFlags(ship), now.freeSubstitutes(ship));
        locker.take(ship, e);
        return locker.row[i - 1];
    }

    // ---- what is done

    public int hoist(int h, int e) {
        if (!ship.hasLine(h) || !ship.hasSignal(e)) {
            return UNKNOWN;
        }
        if (!canHoist(h, e)) {
            return NOT;
        }
        past.remember(now);
        return now.raise(h, e, locker.row);
    }

    public int haul(int h) {
        if (!ship.hasLine(h)) {
            return UNKNOWN;
        }
        if (now.flown[h] == NONE) {
            return NOT;
        }
        past.remember(now);
        return now.lower(h);
    }

    public int day(int n) {
        int refused = refusedDays(n);
        if (refused != 0) {
            return refused;
        }
        past.remember(now);
        for (int i = 0; i < n; i++) {
            now.passDay(ship);
        }
        return now.torn;
    }

    public int sew(int f) {
        if (!ship.hasFlag(f)) {
            return UNKNOWN;
        }
        if (!now.canBeSewn(f)) {
            return NOT;
        }
        past.remember(now);
        int was = now.wear[f];
        now.mend(f);
        return was;
    }

    public int anew(int f, int k, int a, int b) {
        if (!ship.hasFlag(f)) {
            return UNKNOWN;
        }
        if (k < 0 || k > TOP_KIND || a < 0 || a > TOP_COLOUR || b < 0 || b > TOP_COLOUR) {
            return OUTSIDE;
        }
        if (now.where[f] != NONE) {
            return NOT;
        }
        past.remember(now);
        now.kinds[f] = k;
        now.fores[f] = a;
        now.backs[f] = b;
        now.mend(f);
        return clearNow();
    }

    public int weather(int haze, boolean wind) {
        if (haze < 0 || haze > TOP_HAZE) {
            return OUTSIDE;
        }
        int blows = wind ? 1 : 0;
        if (!ship.stands() || (now.haze == haze && now.wind == blows)) {
            return NOT;
        }
        past.remember(now);
        now.haze = haze;
        now.wind = blows;
        return clearNow();
    }

    public int drift(int n) {
        int refused = refusedDays(n);
        if (refused != 0) {
            return refused;
        }
        past.remember(now);
        for (int i = 0; i < n; i++) {
            actByDraws();
            now.passDay(ship);
        }
        return now.torn;
    }

    public int undo() {
        if (past.count == 0) {
            return NOT;
        }
        past.giveBack(now);
        return past.count;
    }

    // ---- tried

    public int look(int f, int haze, boolean wind) {
        if (!ship.hasFlag(f)) {
            return UNKNOWN;
        }
        if (haze < 0 || haze > TOP_HAZE) {
            return OUTSIDE;
        }
        return now.lookIn(f, haze, wind ? 1 : 0);
    }

    public int together(int set) {
        if (!ship.hasAll(set)) {
            return UNKNOWN;
        }
        return flyTogether(set) ? 1 : 0;
    }

    public int turns(int set, int what) {
        if (!ship.hasAll(set)) {
            return UNKNOWN;
        }
        if (what < 0 || what > 1) {
            return OUTSIDE;
        }
        if (set == 0) {
            return what == 0 ? 0 : NONE;
        }
        watch.raiseAll(ship, locker, now.torn);
        if ((set & ~watch.up) != 0) {
            return NONE;
        }
        groupWithin(set);
        rota.plan(set);
        return what == 0 ? rota.fewest[set] : rota.firstGroup(set);
    }

    public int clear(int n, int q) {
        if (n < 0 || n > MOST_DAYS_AT_ONCE || q < 0 || q > 100) {
            return OUTSIDE;
        }
        long odds = BILLION;
        for (int i = 0; i < n; i++) {
            odds = odds * q / 100;
        }
        return (int) odds;
    }

    // ---- what was read

    public int read(int sent, int read) {
        if (!ship.hasSignal(sent) || !ship.hasSignal(read)) {
            return UNKNOWN;
        }
        return log.addRead(sent, read) ? log.reads : FULL;
    }

    public int write(int h, int e) {
        if (!ship.hasLine(h) || (e != NONE && !ship.hasSignal(e))) {
            return UNKNOWN;
        }
        return log.addEntry(h, e) ? log.entries : FULL;
    }

    public int tear() {
        int had = log.reads + log.entries;
        log.wipe();
        return had;
    }

    public int judge() {
        return log.firstFalse(now);
    }

    // ---- draws, images

    public int seed(int v) {
        if (v < 0) {
            return OUTSIDE;
        }
        int was = seedNow;
        seedNow = v;
        return was;
    }

    public int keep(int i) {
        if (i < 0 || i >= images.length) {
            return UNKNOWN;
        }
        images[i].deck.become(now);
        images[i].seedThen = seedNow;
        images[i].kept = true;
        past.forget();
        return 1;
    }

    public int goBack(int i) {
        if (i < 0 || i >= images.length) {
            return UNKNOWN;
        }
        if (!images[i].kept) {
            return NOT;
        }
        now.become(images[i].deck);
        seedNow = images[i].seedThen;
        past.forget();
        return 1;
    }

    // ---- what the calls share

    private static boolean has(int set, int k) {
        return (set >> k & 1) != 0;
    }

    /** Leaves in the locker's row what would go up. */
    private boolean canHoist(int h, int e) {
        if (!ship.hasLine(h) || now.flown[h] != NONE) {
            return false;
        }
        locker.open(now.freeFlags(ship), now.freeSubstitutes(ship));
        return locker.take(ship, e);
    }

    private int refusedDays(int n) {
        if (n < 1 || n > MOST_DAYS_AT_ONCE) {
            return OUTSIDE;
        }
        if (!ship.stands()) {
            return NOT;
        }
        return now.days > LAST_DAY ? FULL : 0;
    }

    private int draw(int n) {
        seedNow = (int) ((seedNow * 1103515245L + 12345L) & 0x7fffffffL);
        return n > 0 ? seedNow / 65536 % n : 0;
    }

    private void actByDraws() {
        int act = draw(5);
        int h = draw(ship.lines);
        switch (act) {
            case 0:
            case 1:
                hoistDrawn(h);
                break;
            case 2:
                if (ship.hasLine(h) && now.flown[h] != NONE) {
                    now.lower(h);
                }
                break;
            case 3:
                now.haze = draw(TOP_HAZE + 1);
                now.wind = draw(2);
                break;
            default:
                sewDrawn();
                break;
        }
    }

    private void hoistDrawn(int h) {
        if (ship.signals == 0) {
            return;
        }
        int e = draw(ship.signals);
        if (canHoist(h, e)) {
            now.raise(h, e, locker.row);
        }
    }

    private void sewDrawn() {
        if (ship.flags == 0) {
            return;
        }
        int f = draw(ship.flags);
        if (now.canBeSewn(f)) {
            now.mend(f);
        }
    }

    private int readySignals() {
        int ready = 0;
        for (int e = 0; e < ship.signals; e++) {
            locker.open(now.freeFlags(ship), now.freeSubstitutes(ship));
            if (locker.take(ship, e)) {
                ready |= 1 << e;
            }
        }
        return ready;
    }

    private void watchIn(int weather) {
        watch.raiseAll(ship, locker, now.torn);
        watch.see(ship, now, weather);
    }

    private int clearNow() {
        watchIn(now.weatherNumber());
        return watch.clearOnes(ship);
    }

    private int clearest() {
        int best = 0;
        int most = -1;
        watch.raiseAll(ship, locker, now.torn);
        for (int w = 0; w < WEATHERS; w++) {
            watch.see(ship, now, w);
            int count = Integer.bitCount(watch.clearOnes(ship));
            if (count > most) {
                most = count;
                best = w;
            }
        }
        return best;
    }

    private boolean flyTogether(int set) {
        if (Integer.bitCount(set) > ship.lines) {
            return false;
        }
        locker.open(ship.allFlags() & ~now.torn, ship.allSubstitutes());
        for (int e = 0; e < ship.signals; e++) {
            if (has(set, e) && !locker.take(ship, e)) {
                return false;
            }
        }
        return true;
    }

    private void groupWithin(int set) {
        for (int group = 0; group < SETS; group++) {
            rota.flies[group] = (group & ~set) == 0 && flyTogether(group);
        }
    }

    private int mostTogether() {
        groupWithin(ship.allSignals());
        return rota.largestGroup();
    }

    private int neededFlag() {
        int best = NONE;
        int most = -1;
        for (int f = 0; f < ship.flags; f++) {
            int count = Integer.bitCount(ship.signalsWith(f));
            if (count > most) {
                most = count;
                best = f;
            }
        }
        return best;
    }

    private int betterFlag() {
        watchIn(now.weatherNumber());
        int most = Integer.bitCount(watch.clearOnes(ship));
        int best = NONE;
        for (int f = 0; f < ship.flags && f < MOST_FLAGS; f++) {
            int told = ship.signalsWith(f);
            // A TORN FLAG that is sewn anew is FREE, so that its SIGNALS go up again.
            watch.raiseAll(ship, locker, now.torn & ~(1 << f));
            watch.see(ship, now, now.weatherNumber());
            for (int pattern = 0; told != 0 && most < ship.signals && pattern < PATTERNS; pattern++) {
                int count = countClearWith(f, pattern, told);
                if (count > most) {
                    most = count;
                    best = 1000 * f + 100 * (pattern / 25) + 10 * (pattern / 5 % 5) + pattern % 5;
                }
            }
        }
        return best;
    }

    /** The pattern is 25 K and 5 A and B; told are the SIGNALS that the FLAG is told in: no others change. */
    private int countClearWith(int f, int pattern, int told) {
        watch.looks[f] = seenPattern(pattern / 25, pattern / 5 % 5, pattern % 5, now.haze, now.wind);
        watch.sign(ship, told);
        return Integer.bitCount(watch.clearOnes(ship));
    }

    private int possibleWeathers() {
        int set = 0;
        watch.raiseAll(ship, locker, now.torn);
        for (int w = 0; w < WEATHERS; w++) {
            watch.see(ship, now, w);
            if (log.fits(ship, watch)) {
                set |= 1 << w;
            }
        }
        return set;
    }

    private int askedSignal() {
        int weathers = possibleWeathers();
        fillLikes();
        int best = NONE;
        int least = Integer.bitCount(weathers);
        for (int e = 0; e < ship.signals; e++) {
            int part = greatestPart(e, weathers);
            if (part < least) {
                least = part;
                best = e;
            }
        }
        return best;
    }

    private void fillLikes() {
        watch.raiseAll(ship, locker, now.torn);
        for (int w = 0; w < WEATHERS; w++) {
            watch.see(ship, now, w);
            for (int e = 0; e < ship.signals; e++) {
                likes[w * MOST_SIGNALS + e] = watch.likeOf(ship, e);
            }
        }
    }

    private int greatestPart(int e, int weathers) {
        int greatest = 0;
        for (int w = 0; w < WEATHERS; w++) {
            int part = 0;
            for (int v = 0; v < WEATHERS; v++) {
                if (has(weathers, w) && has(weathers, v)
                        && likes[w * MOST_SIGNALS + e] == likes[v * MOST_SIGNALS + e]) {
                    part++;
                }
            }
            greatest = Math.max(greatest, part);
        }
        return greatest;
    }

    private static int seenPattern(int kind, int fore, int back, int haze, int wind) {
        boolean plain = kind == 0 || (kind == HALVED ? wind == 0 : haze == FOG);
        int a = seenColour(fore, haze);
        int b = seenColour(plain ? fore : back, haze);
        return 25 * (plain ? 0 : kind) + 5 * a + b;
    }

    private static int seenColour(int colour, int haze) {
        if (haze == 0) {
            return colour;
        }
        return colour == 1 ? 0 : colour == 4 ? 3 : colour;
    }

    /** THE TEXT, and where it goes wrong. */
    private static final class Text {
        final int[] letters = new int[MOST_LETTERS];
        int count = 0;
        int at = 0;
        int wrong = 0;
        int wrongAt = NONE;

        boolean append(int letter) {
            if (count >= letters.length) {
                return false;
            }
            letters[count] = letter;
            count++;
            return true;
        }

        /** The number of the first FAULT; 0: none, and the ship is whole. */
        int parseInto(Ship target) {
            target.strike();
            at = 0;
            wrong = 0;
            wrongAt = NONE;
            if (nextLetter() == NONE) {
                return 0;
            }
            parseLines(target);
            for (int clause = 0; clause < MOST_LETTERS && wrong == 0; clause++) {
                if (nextLetter() == NONE) {
                    break;
                }
                parseClause(target);
            }
            return wrong;
        }

        /** The next letter that is no blank, which is not passed; NONE: the end. */
        int nextLetter() {
            while (at < count && letters[at] == ' ') {
                at++;
            }
            return at < count ? letters[at] : NONE;
        }

        /** Only the first FAULT counts: what comes behind it is not looked at. */
        void blame(int number, int letterAt) {
            if (wrong == 0) {
                wrong = number;
                wrongAt = letterAt;
            }
        }

        void parseLines(Ship target) {
            pass('l');
            int lines = parseNumber(1, MOST_LINES);
            int substitutes = parseNumber(0, MOST_SUBSTITUTES);
            pass(';');
            if (wrong == 0) {
                target.lines = lines;
                target.substitutes = substitutes;
            }
        }

        void parseClause(Ship target) {
            int word = nextLetter();
            if (word == 'f') {
                parseFlag(target);
            } else if (word == 'e') {
                parseSignal(target);
            } else {
                blame(word == 'l' ? 3 : 1, at);
            }
        }

        void parseFlag(Ship target) {
            if (target.flags >= MOST_FLAGS) {
                blame(3, at);
            }
            pass('f');
            int kind = parseNumber(0, TOP_KIND);
            int fore = parseNumber(0, TOP_COLOUR);
            int back = parseNumber(0, TOP_COLOUR);
            pass(';');
            if (wrong == 0) {
                target.addFlag(kind, fore, back);
            }
        }

        void parseSignal(Ship target) {
            if (target.signals >= MOST_SIGNALS) {
                blame(3, at);
            }
            pass('e');
            target.startSignal();
            target.addToSignal(parseNumber(0, target.flags - 1));
            for (int place = 1; place < PLACES && nextLetter() == ','; place++) {
                pass(',');
                target.addToSignal(parseNumber(0, target.flags - 1));
            }
            pass(';');
            if (wrong == 0) {
                target.endSignal();
            }
        }

        void pass(int letter) {
            if (wrong != 0) {
                return;
            }
            if (nextLetter() == letter) {
                at++;
            } else {
                blame(1, at);
            }
        }

        int parseNumber(int least, int greatest) {
            if (wrong != 0) {
                return 0;
            }
            nextLetter();
            int first = at;
            int value = 0;
            while (at < count && letters[at] >= '0' && letters[at] <= '9') {
                // Beyond three figures the value no longer matters, and must not wrap around.
                value = at - first < 3 ? value * 10 + letters[at] - '0' : value;
                at++;
            }
            if (at == first) {
                blame(1, first);
            } else if (at - first > 3 || value < least || value > greatest) {
                blame(2, first);
            }
            return value;
        }
    }

    /** THE SHIP as the text tells it; one without LINES is none. */
    private static final class Ship {
        int lines = 0;
        int substitutes = 0;
        int flags = 0;
        int signals = 0;
        final int[] kinds = new int[MOST_FLAGS];
        final int[] fores = new int[MOST_FLAGS];
        final int[] backs = new int[MOST_FLAGS];
        final int[] lengths = new int[MOST_SIGNALS];
        final int[] rows = new int[MOST_SIGNALS * PLACES];

        void strike() {
            lines = 0;
            substitutes = 0;
            flags = 0;
            signals = 0;
        }

        boolean stands() {
            return lines > 0;
        }

        boolean hasLine(int h) {
            return h >= 0 && h < lines && h < MOST_LINES;
        }

        boolean hasFlag(int f) {
            return f >= 0 && f < flags && f < MOST_FLAGS;
        }

        boolean hasSignal(int e) {
            return e >= 0 && e < signals && e < MOST_SIGNALS;
        }

        boolean hasAll(int set) {
            return (set & ~allSignals()) == 0;
        }

        int allSignals() {
            return (1 << signals) - 1;
        }

        int allFlags() {
            return (1 << flags) - 1;
        }

        /** Bit k for SUBSTITUTE k, so that bit 0 is not used. */
        int allSubstitutes() {
            return (2 << substitutes) - 2;
        }

        void addFlag(int kind, int fore, int back) {
            if (flags < MOST_FLAGS) {
                kinds[flags] = kind;
                fores[flags] = fore;
                backs[flags] = back;
                flags++;
            }
        }

        void startSignal() {
            if (signals < MOST_SIGNALS) {
                lengths[signals] = 0;
                for (int place = 0; place < PLACES; place++) {
                    rows[signals * PLACES + place] = NONE;
                }
            }
        }

        void addToSignal(int f) {
            if (signals < MOST_SIGNALS && lengths[signals] < PLACES) {
                rows[signals * PLACES + lengths[signals]] = f;
                lengths[signals]++;
            }
        }

        void endSignal() {
            if (signals < MOST_SIGNALS) {
                signals++;
            }
        }

        int flagAt(int e, int place) {
            boolean told = e >= 0 && e < signals && e < MOST_SIGNALS && place >= 0 && place < PLACES;
            return told ? rows[e * PLACES + place] : NONE;
        }

        int signalsWith(int f) {
            int set = 0;
            for (int e = 0; e < signals; e++) {
                for (int place = 0; place < PLACES; place++) {
                    if (flagAt(e, place) == f) {
                        set |= 1 << e;
                    }
                }
            }
            return set;
        }
    }

    /** All that is done and undone: FLAGS, LINES, DAYS, WEATHER. */
    private static final class Deck {
        final int[] kinds = new int[MOST_FLAGS];
        final int[] fores = new int[MOST_FLAGS];
        final int[] backs = new int[MOST_FLAGS];
        final int[] wear = new int[MOST_FLAGS];
        final int[] where = new int[MOST_FLAGS];
        final int[] flown = new int[MOST_LINES];
        final int[] places = new int[MOST_LINES * PLACES];
        int torn = 0;
        int substitutesUp = 0;
        int days = 0;
        int haze = 0;
        int wind = 0;

        void rig(Ship ship) {
            for (int f = 0; f < MOST_FLAGS; f++) {
                kinds[f] = ship.kinds[f];
                fores[f] = ship.fores[f];
                backs[f] = ship.backs[f];
                wear[f] = 0;
                where[f] = NONE;
            }
            for (int h = 0; h < MOST_LINES; h++) {
                emptyLine(h);
            }
            torn = 0;
            substitutesUp = 0;
            days = 0;
            haze = 0;
            wind = ship.stands() ? 1 : 0;
        }

        void become(Deck other) {
            System.arraycopy(other.kinds, 0, kinds, 0, MOST_FLAGS);
            System.arraycopy(other.fores, 0, fores, 0, MOST_FLAGS);
            System.arraycopy(other.backs, 0, backs, 0, MOST_FLAGS);
            System.arraycopy(other.wear, 0, wear, 0, MOST_FLAGS);
            System.arraycopy(other.where, 0, where, 0, MOST_FLAGS);
            System.arraycopy(other.flown, 0, flown, 0, MOST_LINES);
            System.arraycopy(other.places, 0, places, 0, MOST_LINES * PLACES);
            torn = other.torn;
            substitutesUp = other.substitutesUp;
            days = other.days;
            haze = other.haze;
            wind = other.wind;
        }

        int weatherNumber() {
            return 2 * haze + wind;
        }

        int freeFlags(Ship ship) {
            int free = ship.allFlags() & ~torn;
            for (int f = 0; f < MOST_FLAGS; f++) {
                if (where[f] != NONE) {
                    free &= ~(1 << f);
                }
            }
            return free;
        }

        int freeSubstitutes(Ship ship) {
            return ship.allSubstitutes() & ~substitutesUp;
        }

        int lookIn(int f, int hazeThen, int windThen) {
            if (f < 0 || f >= MOST_FLAGS) {
                return NONE;
            }
            return seenPattern(kinds[f], fores[f], backs[f], hazeThen, windThen);
        }

        int lineOf(int e) {
            for (int h = 0; h < MOST_LINES; h++) {
                if (flown[h] == e) {
                    return h;
                }
            }
            return NONE;
        }

        boolean canBeSewn(int f) {
            return f >= 0 && f < MOST_FLAGS && where[f] == NONE && has(torn, f);
        }

        void mend(int f) {
            if (f >= 0 && f < MOST_FLAGS) {
                wear[f] = 0;
                torn &= ~(1 << f);
            }
        }

        /** How many SUBSTITUTES the row has. */
        int raise(int h, int e, int[] row) {
            int substitutes = 0;
            flown[h] = e;
            for (int place = 0; place < PLACES && place < row.length; place++) {
                int piece = row[place];
                places[h * PLACES + place] = piece;
                if (piece > SUBSTITUTE_PIECE) {
                    substitutesUp |= 1 << (piece - SUBSTITUTE_PIECE);
                    substitutes++;
                } else if (piece >= 0 && piece < MOST_FLAGS) {
                    where[piece] = h;
                }
            }
            return substitutes;
        }

        /** The SIGNAL that flew. */
        int lower(int h) {
            int e = flown[h];
            for (int place = 0; place < PLACES; place++) {
                int piece = places[h * PLACES + place];
                if (piece > SUBSTITUTE_PIECE) {
                    substitutesUp &= ~(1 << (piece - SUBSTITUTE_PIECE));
                } else if (piece >= 0 && piece < MOST_FLAGS) {
                    where[piece] = NONE;
                }
            }
            emptyLine(h);
            return e;
        }

        void emptyLine(int h) {
            flown[h] = NONE;
            for (int place = 0; place < PLACES; place++) {
                places[h * PLACES + place] = NONE;
            }
        }

        void passDay(Ship ship) {
            for (int f = 0; f < ship.flags && f < MOST_FLAGS; f++) {
                if (where[f] != NONE && !has(torn, f)) {
                    wear[f]++;
                    if (wear[f] >= TORN_AT) {
                        torn |= 1 << f;
                    }
                }
            }
            days++;
        }
    }

    /** What could be undone: a ring, so that the oldest is lost without moving the others. */
    private static final class Past {
        final Deck[] decks = new Deck[MOST_UNDONE];
        int first = 0;
        int count = 0;

        Past() {
            for (int i = 0; i < decks.length; i++) {
                decks[i] = new Deck();
            }
        }

        void remember(Deck deck) {
            decks[(first + count) % MOST_UNDONE].become(deck);
            if (count < MOST_UNDONE) {
                count++;
            } else {
                first = (first + 1) % MOST_UNDONE;
            }
        }

        void giveBack(Deck deck) {
            if (count > 0) {
                count--;
                deck.become(decks[(first + count) % MOST_UNDONE]);
            }
        }

        void forget() {
            first = 0;
            count = 0;
        }
    }

    private static final class Image {
        final Deck deck = new Deck();
        int seedThen = 0;
        boolean kept = false;
    }

    /** What is FREE, as SIGNALS go up from it one behind the other. */
    private static final class Locker {
        int flags = 0;
        int substitutes = 0;
        final int[] row = new int[PLACES];

        void open(int freeFlags, int freeSubstitutes) {
            flags = freeFlags;
            substitutes = freeSubstitutes;
        }

        /** Whether the SIGNAL can go up: its row is taken out then; else nothing is, and the row is empty. */
        boolean take(Ship ship, int e) {
            emptyRow();
            if (!ship.hasSignal(e)) {
                return false;
            }
            int flagsAhead = flags;
            int substitutesAhead = substitutes;
            for (int place = 0; place < ship.lengths[e] && place < PLACES; place++) {
                int piece = pieceFor(ship, e, place);
                if (piece == NONE) {
                    open(flagsAhead, substitutesAhead);
                    emptyRow();
                    return false;
                }
                row[place] = piece;
                if (piece > SUBSTITUTE_PIECE) {
                    substitutes &= ~(1 << (piece - SUBSTITUTE_PIECE));
                } else {
                    flags &= ~(1 << piece);
                }
            }
            return true;
        }

        /** The place is counted from 0 here, so that SUBSTITUTE k repeats place k less 1. */
        int pieceFor(Ship ship, int e, int place) {
            int f = ship.flagAt(e, place);
            if (has(flags, f)) {
                return f;
            }
            for (int k = 1; k <= place && k <= MOST_SUBSTITUTES; k++) {
                if (has(substitutes, k) && ship.flagAt(e, k - 1) == f) {
                    return SUBSTITUTE_PIECE + k;
                }
            }
            return NONE;
        }

        void emptyRow() {
            for (int place = 0; place < PLACES; place++) {
                row[place] = NONE;
            }
        }
    }

    /** How SIGNALS look from afar, were all FREE that is not TORN. */
    private static final class Watch {
        final int[] rows = new int[MOST_SIGNALS * PLACES];
        final int[] looks = new int[MOST_FLAGS];
        /** Four looks in one number: SIGNALS that can go up look alike if their signs are the same. */
        final int[] signs = new int[MOST_SIGNALS];
        int up = 0;

        void raiseAll(Ship ship, Locker locker, int torn) {
            up = 0;
            for (int e = 0; e < ship.signals && e < MOST_SIGNALS; e++) {
                locker.open(ship.allFlags() & ~torn, ship.allSubstitutes());
                if (locker.take(ship, e)) {
                    up |= 1 << e;
                }
                for (int place = 0; place < PLACES; place++) {
                    rows[e * PLACES + place] = locker.row[place];
                }
            }
        }

        void see(Ship ship, Deck deck, int weather) {
            for (int f = 0; f < MOST_FLAGS; f++) {
                looks[f] = deck.lookIn(f, weather / 2, weather % 2);
            }
            sign(ship, up);
        }

        void sign(Ship ship, int set) {
            for (int e = 0; e < ship.signals && e < MOST_SIGNALS; e++) {
                if (has(set, e)) {
                    int sign = 0;
                    for (int place = 0; place < PLACES; place++) {
                        sign = sign << 8 | lookOfPiece(rows[e * PLACES + place]);
                    }
                    signs[e] = sign;
                }
            }
        }

        int lookOfPiece(int piece) {
            if (piece > SUBSTITUTE_PIECE) {
                return SUBSTITUTE_LOOK + piece - SUBSTITUTE_PIECE;
            }
            return piece >= 0 && piece < MOST_FLAGS ? looks[piece] : NO_LOOK;
        }

        int likeOf(Ship ship, int e) {
            if (!ship.hasSignal(e) || !has(up, e)) {
                return 0;
            }
            int like = 0;
            for (int other = 0; other < ship.signals && other < MOST_SIGNALS; other++) {
                if (has(up, other) && signs[other] == signs[e]) {
                    like |= 1 << other;
                }
            }
            return like;
        }

        int clearOnes(Ship ship) {
            int confused = 0;
            for (int e = 0; e < ship.signals && e < MOST_SIGNALS; e++) {
                for (int other = 0; other < e; other++) {
                    if (signs[other] == signs[e] && has(up, e) && has(up, other)) {
                        confused |= 1 << e | 1 << other;
                    }
                }
            }
            return up & ~confused;
        }
    }

    /** Which sets of SIGNALS can fly TOGETHER, and the TURNS that they make. */
    private static final class Rota {
        final boolean[] flies = new boolean[SETS];
        final int[] fewest = new int[SETS];

        int largestGroup() {
            int best = 0;
            for (int group = 1; group < SETS; group++) {
                if (flies[group] && Integer.bitCount(group) > Integer.bitCount(best)) {
                    best = group;
                }
            }
            return best;
        }

        /** Each SIGNAL of the set must fly by itself at least: then every part of it has its TURNS. */
        void plan(int set) {
            fewest[0] = 0;
            for (int part = 1; part <= set && part < SETS; part++) {
                if ((part & ~set) == 0) {
                    fewest[part] = fewestOf(part);
                }
            }
        }

        /** Turns may be put in any order, so the one that is chosen here is that of the least SIGNAL. */
        int fewestOf(int part) {
            int least = part & -part;
            int rest = part & ~least;
            int best = fewest[rest] + 1;
            // The mates become a lesser part of the rest each time, down to none.
            for (int mates = rest; mates > 0; mates = (mates - 1) & rest) {
                if (flies[least | mates]) {
                    best = Math.min(best, fewest[rest & ~mates] + 1);
                }
            }
            return best;
        }

        int firstGroup(int set) {
            for (int group = 1; group <= set && group < SETS; group++) {
                if (flies[group] && fewest[set & ~group] == fewest[set] - 1) {
                    return group;
                }
            }
            return NONE;
        }
    }

    /** What was READ, and THE BOOK. */
    private static final class Log {
        final int[] sent = new int[MOST_READ];
        final int[] seen = new int[MOST_READ];
        final int[] entryLines = new int[MOST_ENTRIES];
        final int[] entrySignals = new int[MOST_ENTRIES];
        int reads = 0;
        int entries = 0;

        boolean addRead(int sentSignal, int seenSignal) {
            if (reads >= MOST_READ) {
                return false;
            }
            sent[reads] = sentSignal;
            seen[reads] = seenSignal;
            reads++;
            return true;
        }

        boolean addEntry(int h, int e) {
            if (entries >= MOST_ENTRIES) {
                return false;
            }
            entryLines[entries] = h;
            entrySignals[entries] = e;
            entries++;
            return true;
        }

        void wipe() {
            reads = 0;
            entries = 0;
        }

        boolean fits(Ship ship, Watch watch) {
            for (int i = 0; i < reads && i < MOST_READ; i++) {
                if (!has(watch.likeOf(ship, sent[i]), seen[i])) {
                    return false;
                }
            }
            return true;
        }

        int firstFalse(Deck deck) {
            for (int i = 0; i < entries && i < MOST_ENTRIES; i++) {
                int h = entryLines[i];
                if (h >= 0 && h < MOST_LINES && deck.flown[h] != entrySignals[i]) {
                    return i;
                }
            }
            return NONE;
        }
    }
}
