import java.util.ArrayList;
import java.util.Arrays;
import java.util.HashMap;
import java.util.List;
import java.util.Map;

/**
 * The document told once more, as naively as it goes and by other means than the class:
 * tokens instead of letters, rows as lists, everything that is TRIED by brute force.
 */
final class Oracle {
    static final int NONE = -1, UNKNOWN = -1000000001, OUTSIDE = -1000000002, NOT = -1000000003, FULL = -1000000004;

    static final class World {
        int[][] pattern = new int[0][];
        int[] wear = new int[0];
        boolean[] torn = new boolean[0];
        List<List<Integer>> hung = new ArrayList<>();
        List<Integer> flown = new ArrayList<>();
        int days, haze, wind;

        World copy() {
            World w = new World();
            w.pattern = new int[pattern.length][];
            for (int f = 0; f < pattern.length; f++) w.pattern[f] = pattern[f].clone();
            w.wear = wear.clone();
            w.torn = torn.clone();
            for (List<Integer> row : hung) w.hung.add(new ArrayList<>(row));
            w.flown.addAll(flown);
            w.days = days;
            w.haze = haze;
            w.wind = wind;
            return w;
        }

        int lineOfPiece(int piece) {
            for (int h = 0; h < hung.size(); h++) if (hung.get(h).contains(piece)) return h;
            return NONE;
        }

        int tornSet() {
            int set = 0;
            for (int f = 0; f < torn.length; f++) if (torn[f]) set |= 1 << f;
            return set;
        }
    }

    private final StringBuilder text = new StringBuilder();
    private int lines, subs;
    private List<List<Integer>> signals = new ArrayList<>();
    private World now = new World();
    private List<World> past = new ArrayList<>();
    private World[] images = new World[2];
    private long[] imageSeeds = new long[2];
    private List<int[]> reads = new ArrayList<>();
    private List<int[]> book = new ArrayList<>();
    private long seed;
    private int faultAt = NONE;

    // ---- the text, by tokens

    private static final class Fault extends Exception {
        private static final long serialVersionUID = 1L;
        final int number, at;
        Fault(int number, int at) { this.number = number; this.at = at; }
    }

    private List<String> tokens;
    private List<Integer> starts;
    private int next;

    private void tokenize(String all) {
        tokens = new ArrayList<>();
        starts = new ArrayList<>();
        for (int i = 0; i < all.length();) {
            int start = i;
            if (all.charAt(i) == ' ') { i++; continue; }
            if (all.charAt(i) >= '0' && all.charAt(i) <= '9') {
                while (i < all.length() && all.charAt(i) >= '0' && all.charAt(i) <= '9') i++;
            } else {
                i++;
            }
            tokens.add(all.substring(start, i));
            starts.add(start);
        }
        tokens.add("");
        starts.add(all.length());
        next = 0;
    }

    private void want(String word) throws Fault {
        if (!tokens.get(next).equals(word)) throw new Fault(1, starts.get(next));
        next++;
    }

    private int number(int low, int high) throws Fault {
        String token = tokens.get(next);
        int at = starts.get(next);
        if (token.isEmpty() || token.charAt(0) < '0' || token.charAt(0) > '9') throw new Fault(1, at);
        if (token.length() > 3) throw new Fault(2, at);
        int v = Integer.parseInt(token);
        if (v < low || v > high) throw new Fault(2, at);
        next++;
        return v;
    }

    int feed(int letter) {
        if (letter < 0 || letter > 255) return OUTSIDE;
        if (text.length() == 240) return FULL;
        text.append((char) letter);
        return text.length();
    }

    int ship() {
        String all = text.toString();
        text.setLength(0);
        int newLines = 0, newSubs = 0;
        List<int[]> flags = new ArrayList<>();
        List<List<Integer>> told = new ArrayList<>();
        try {
            tokenize(all);
            if (tokens.size() > 1) {
                want("l");
                newLines = number(1, 3);
                newSubs = number(0, 3);
                want(";");
                while (!tokens.get(next).isEmpty()) {
                    String word = tokens.get(next);
                    int at = starts.get(next);
                    if (word.equals("l")) throw new Fault(3, at);
                    if (word.equals("f")) {
                        if (flags.size() == 10) throw new Fault(3, at);
                        next++;
                        flags.add(new int[] {number(0, 3), number(0, 4), number(0, 4)});
                        want(";");
                    } else {
                        if (word.equals("e") && told.size() == 10) throw new Fault(3, at);
                        want("e");
                        List<Integer> row = new ArrayList<>();
                        row.add(number(0, flags.size() - 1));
                        while (row.size() < 4 && tokens.get(next).equals(",")) {
                            next++;
                            row.add(number(0, flags.size() - 1));
                        }
                        want(";");
                        told.add(row);
                    }
                }
            }
        } catch (Fault fault) {
            faultAt = fault.at;
            return -10 - fault.number;
        }
        faultAt = NONE;
        lines = newLines;
        subs = newSubs;
        signals = told;
        now = new World();
        now.pattern = flags.toArray(new int[0][]);
        now.wear = new int[flags.size()];
        now.torn = new boolean[flags.size()];
        for (int h = 0; h < lines; h++) {
            now.hung.add(new ArrayList<>());
            now.flown.add(NONE);
        }
        now.wind = lines > 0 ? 1 : 0;
        past.clear();
        images = new World[2];
        reads.clear();
        book.clear();
        return signals.size();
    }

    int fault() { return faultAt; }

    // ---- what goes up

    /** The row by what is free (pieces), or null. */
    private List<Integer> rowOf(int e, List<Integer> free) {
        List<Integer> row = new ArrayList<>();
        List<Integer> told = signals.get(e);
        for (int p = 1; p <= told.size(); p++) {
            int f = told.get(p - 1);
            Integer piece = null;
            if (free.contains(f) && !row.contains(f)) piece = f;
            for (int k = 1; piece == null && k < p; k++) {
                if (free.contains(20 + k) && !row.contains(20 + k) && standsFor(row, k) == f) piece = 20 + k;
            }
            if (piece == null) return null;
            row.add(piece);
        }
        return row;
    }

    /** What the piece at place k of a row stands for, followed through the SUBSTITUTES. */
    private static int standsFor(List<Integer> row, int k) {
        int piece = row.get(k - 1);
        return piece > 20 ? standsFor(row, piece - 20) : piece;
    }

    private List<Integer> freeNow() {
        List<Integer> free = untorn(now);
        free.removeIf(piece -> now.lineOfPiece(piece) != NONE);
        return free;
    }

    private List<Integer> untorn(World w) {
        List<Integer> free = new ArrayList<>();
        for (int f = 0; f < w.torn.length; f++) if (!w.torn[f]) free.add(f);
        for (int k = 1; k <= subs; k++) free.add(20 + k);
        return free;
    }

    private boolean isLine(int h) { return h >= 0 && h < lines; }
    private boolean isFlag(int f) { return f >= 0 && f < now.torn.length; }
    private boolean isSignal(int e) { return e >= 0 && e < signals.size(); }

    private boolean isSet(int set) {
        for (int k = 0; k < 32; k++) if ((set >>> k & 1) != 0 && !isSignal(k)) return false;
        return true;
    }

    int flag(int f, int what) {
        if (!isFlag(f)) return UNKNOWN;
        if (what < 0 || what > 6) return OUTSIDE;
        if (what < 3) return now.pattern[f][what];
        if (what == 3) return now.wear[f];
        if (what == 4) return now.lineOfPiece(f);
        if (what == 5) return now.torn[f] ? 1 : 0;
        return lookOf(now, f, now.haze, now.wind);
    }

    int signal(int e, int what) {
        if (!isSignal(e)) return UNKNOWN;
        if (what < 0 || what > 6) return OUTSIDE;
        List<Integer> told = signals.get(e);
        if (what == 0) return told.size();
        if (what < 5) return what <= told.size() ? told.get(what - 1) : NONE;
        if (what == 5) return like(now, e, now.haze, now.wind);
        return now.flown.indexOf(e);
    }

    int line(int h, int what) {
        if (!isLine(h)) return UNKNOWN;
        if (what < 0 || what > 4) return OUTSIDE;
        if (what == 0) return now.flown.get(h);
        return what <= now.hung.get(h).size() ? now.hung.get(h).get(what - 1) : NONE;
    }

    int needs(int e, int i) {
        if (!isSignal(e)) return UNKNOWN;
        if (i < 1 || i > 4) return OUTSIDE;
        List<Integer> row = rowOf(e, freeNow());
        return row == null || i > row.size() ? NONE : row.get(i - 1);
    }

    // ---- what is done

    private void remember() {
        past.add(now.copy());
        if (past.size() > 16) past.remove(0);
    }

    int hoist(int h, int e) {
        if (!isLine(h) || !isSignal(e)) return UNKNOWN;
        List<Integer> row = rowOf(e, freeNow());
        if (now.flown.get(h) != NONE || row == null) return NOT;
        remember();
        now.flown.set(h, e);
        now.hung.set(h, row);
        return (int) row.stream().filter(piece -> piece > 20).count();
    }

    int haul(int h) {
        if (!isLine(h)) return UNKNOWN;
        int e = now.flown.get(h);
        if (e == NONE) return NOT;
        remember();
        now.flown.set(h, NONE);
        now.hung.set(h, new ArrayList<>());
        return e;
    }

    private void oneDay() {
        for (int f = 0; f < now.torn.length; f++) {
            if (now.lineOfPiece(f) != NONE && !now.torn[f]) {
                now.wear[f]++;
                now.torn[f] = now.wear[f] == 5;
            }
        }
        now.days++;
    }

    int day(int n) {
        if (n < 1 || n > 60) return OUTSIDE;
        if (lines == 0) return NOT;
        if (now.days > 9000) return FULL;
        remember();
        for (int i = 0; i < n; i++) oneDay();
        return now.tornSet();
    }

    int sew(int f) {
        if (!isFlag(f)) return UNKNOWN;
        if (now.lineOfPiece(f) != NONE || !now.torn[f]) return NOT;
        remember();
        int was = now.wear[f];
        now.wear[f] = 0;
        now.torn[f] = false;
        return was;
    }

    int anew(int f, int k, int a, int b) {
        if (!isFlag(f)) return UNKNOWN;
        if (k < 0 || k > 3 || a < 0 || a > 4 || b < 0 || b > 4) return OUTSIDE;
        if (now.lineOfPiece(f) != NONE) return NOT;
        remember();
        renew(now, f, k, a, b);
        return clearSet(now, now.haze, now.wind);
    }

    private static void renew(World w, int f, int k, int a, int b) {
        w.pattern[f] = new int[] {k, a, b};
        w.wear[f] = 0;
        w.torn[f] = false;
    }

    int weather(int haze, boolean wind) {
        if (haze < 0 || haze > 2) return OUTSIDE;
        int blows = wind ? 1 : 0;
        if (lines == 0 || (haze == now.haze && blows == now.wind)) return NOT;
        remember();
        now.haze = haze;
        now.wind = blows;
        return clearSet(now, haze, blows);
    }

    private int draw(int n) {
        seed = (seed * 1103515245L + 12345L) % (1L << 31);
        return (int) (seed / 65536 % n);
    }

    int drift(int n) {
        if (n < 1 || n > 60) return OUTSIDE;
        if (lines == 0) return NOT;
        if (now.days > 9000) return FULL;
        List<World> before = new ArrayList<>(past);
        World start = now.copy();
        for (int i = 0; i < n; i++) {
            int act = draw(5), h = draw(lines);
            if (act <= 1 && !signals.isEmpty()) hoist(h, draw(signals.size()));
            if (act == 2) haul(h);
            if (act == 3) { now.haze = draw(3); now.wind = draw(2); }
            if (act == 4 && now.torn.length > 0) sew(draw(now.torn.length));
            oneDay();
        }
        past = before;
        past.add(start);
        if (past.size() > 16) past.remove(0);
        return now.tornSet();
    }

    int undo() {
        if (past.isEmpty()) return NOT;
        now = past.remove(past.size() - 1);
        return past.size();
    }

    // ---- tried

    private static int lookOf(World w, int f, int haze, int wind) {
        int k = w.pattern[f][0], a = w.pattern[f][1], b = w.pattern[f][2];
        if (k == 0) b = a;
        if (k == 1 && wind == 0) { k = 0; b = a; }
        if (k >= 2 && haze == 2) { k = 0; b = a; }
        if (haze > 0) {
            int[] dimmed = {0, 0, 2, 3, 3};
            a = dimmed[a];
            b = dimmed[b];
        }
        return 25 * k + 5 * a + b;
    }

    private List<Integer> looks(World w, int e, int haze, int wind) {
        List<Integer> row = rowOf(e, untorn(w));
        if (row == null) return null;
        List<Integer> seen = new ArrayList<>();
        for (int piece : row) seen.add(piece > 20 ? 180 + piece : lookOf(w, piece, haze, wind));
        return seen;
    }

    private int like(World w, int e, int haze, int wind) {
        List<Integer> mine = looks(w, e, haze, wind);
        int set = 0;
        for (int o = 0; mine != null && o < signals.size(); o++) if (mine.equals(looks(w, o, haze, wind))) set |= 1 << o;
        return set;
    }

    private int clearSet(World w, int haze, int wind) {
        Map<List<Integer>, Integer> sets = new HashMap<>();
        for (int e = 0; e < signals.size(); e++) {
            List<Integer> seen = looks(w, e, haze, wind);
            if (seen != null) sets.merge(seen, 1 << e, (x, y) -> x | y);
        }
        int set = 0;
        for (int like : sets.values()) if (Integer.bitCount(like) == 1) set |= like;
        return set;
    }

    int look(int f, int haze, boolean wind) {
        if (!isFlag(f)) return UNKNOWN;
        if (haze < 0 || haze > 2) return OUTSIDE;
        return lookOf(now, f, haze, wind ? 1 : 0);
    }

    private boolean flyTogether(int set) {
        List<Integer> free = untorn(now);
        int up = 0;
        for (int e = 0; e < signals.size(); e++) {
            if ((set >> e & 1) == 0) continue;
            List<Integer> row = rowOf(e, free);
            if (row == null || ++up > lines) return false;
            free.removeAll(row);
        }
        return true;
    }

    int together(int set) {
        if (!isSet(set)) return UNKNOWN;
        return flyTogether(set) ? 1 : 0;
    }

    /** Every set of one turn that goes, and what is left of the set, to the very end. */
    private int fewest(int set, Map<Integer, Integer> known) {
        if (set == 0) return 0;
        Integer was = known.get(set);
        if (was != null) return was;
        int best = 1000;
        for (int turn = 1; turn <= set; turn++) {
            if ((turn & set) == turn && flyTogether(turn)) best = Math.min(best, 1 + fewest(set - turn, known));
        }
        known.put(set, best);
        return best;
    }

    int turns(int set, int what) {
        if (!isSet(set)) return UNKNOWN;
        if (what < 0 || what > 1) return OUTSIDE;
        Map<Integer, Integer> known = new HashMap<>();
        int best = fewest(set, known);
        if (best >= 1000) return NONE;
        if (what == 0) return best;
        for (int turn = 1; turn <= set; turn++) {
            if ((turn & set) == turn && flyTogether(turn) && fewest(set - turn, known) == best - 1) return turn;
        }
        return NONE;
    }

    int clear(int n, int q) {
        if (n < 0 || n > 60 || q < 0 || q > 100) return OUTSIDE;
        long odds = 1000000000L;
        while (n-- > 0) odds = odds * q / 100;
        return (int) odds;
    }

    private int clearest() {
        int best = 0;
        for (int w = 1; w < 6; w++) {
            if (Integer.bitCount(clearSet(now, w / 2, w % 2)) > Integer.bitCount(clearSet(now, best / 2, best % 2))) best = w;
        }
        return best;
    }

    private int most() {
        int best = 0;
        for (int set = 0; set < 1 << signals.size(); set++) {
            if (flyTogether(set) && Integer.bitCount(set) > Integer.bitCount(best)) best = set;
        }
        return best;
    }

    private int needed() {
        int best = NONE;
        long most = -1;
        for (int f = 0; f < now.torn.length; f++) {
            int flag = f;
            long count = signals.stream().filter(row -> row.contains(flag)).count();
            if (count > most) { most = count; best = f; }
        }
        return best;
    }

    private int better() {
        int best = NONE;
        int most = Integer.bitCount(clearSet(now, now.haze, now.wind));
        for (int code = 0; code < 1000 * now.torn.length; code++) {
            int k = code / 100 % 10, a = code / 10 % 10, b = code % 10;
            if (k > 3 || a > 4 || b > 4) continue;
            World w = now.copy();
            renew(w, code / 1000, k, a, b);
            int count = Integer.bitCount(clearSet(w, now.haze, now.wind));
            if (count > most) { most = count; best = code; }
        }
        return best;
    }

    private int weathers() {
        int set = 0;
        for (int w = 0; w < 6; w++) {
            int weather = w;
            if (reads.stream().allMatch(r -> (like(now, r[0], weather / 2, weather % 2) >> r[1] & 1) != 0)) set |= 1 << w;
        }
        return set;
    }

    private int ask() {
        int set = weathers(), best = NONE, least = Integer.bitCount(set);
        for (int e = 0; e < signals.size(); e++) {
            Map<Integer, Integer> parts = new HashMap<>();
            for (int w = 0; w < 6; w++) if ((set >> w & 1) != 0) parts.merge(like(now, e, w / 2, w % 2), 1, Integer::sum);
            int greatest = parts.values().stream().mapToInt(x -> x).max().orElse(0);
            if (greatest < least) { least = greatest; best = e; }
        }
        return best;
    }

    private int ready() {
        int set = 0;
        for (int e = 0; e < signals.size(); e++) if (rowOf(e, freeNow()) != null) set |= 1 << e;
        return set;
    }

    int told(int what) {
        int free = 0;
        for (int piece : freeNow()) if (piece < 20) free |= 1 << piece;
        if (what < 0 || what > 21) return OUTSIDE;
        int[] plain = {lines, subs, now.torn.length, signals.size(), text.length(), now.days, now.haze, now.wind, free, now.tornSet()};
        if (what < plain.length) return plain[what];
        switch (what) {
            case 10: return ready();
            case 11: return clearSet(now, now.haze, now.wind);
            case 12: return clearest();
            case 13: return most();
            case 14: return needed();
            case 15: return better();
            case 16: return reads.size();
            case 17: return Integer.bitCount(weathers());
            case 18: return weathers();
            case 19: return ask();
            case 20: return book.size();
            default: return past.size();
        }
    }

    // ---- what was read; draws, images

    int read(int sent, int read) {
        if (!isSignal(sent) || !isSignal(read)) return UNKNOWN;
        if (reads.size() == 8) return FULL;
        reads.add(new int[] {sent, read});
        return reads.size();
    }

    int write(int h, int e) {
        if (!isLine(h) || (e != NONE && !isSignal(e))) return UNKNOWN;
        if (book.size() == 15) return FULL;
        book.add(new int[] {h, e});
        return book.size();
    }

    int tear() {
        int had = reads.size() + book.size();
        reads.clear();
        book.clear();
        return had;
    }

    int judge() {
        for (int i = 0; i < book.size(); i++) if (now.flown.get(book.get(i)[0]) != book.get(i)[1]) return i;
        return NONE;
    }

    int seed(int v) {
        if (v < 0) return OUTSIDE;
        int was = (int) seed;
        seed = v;
        return was;
    }

    int keep(int i) {
        if (i < 0 || i > 1) return UNKNOWN;
        images[i] = now.copy();
        imageSeeds[i] = seed;
        past.clear();
        return 1;
    }

    int goBack(int i) {
        if (i < 0 || i > 1) return UNKNOWN;
        if (images[i] == null) return NOT;
        now = images[i].copy();
        seed = imageSeeds[i];
        past.clear();
        return 1;
    }

    @Override
    public String toString() {
        return lines + " lines, " + subs + " substitutes, " + Arrays.deepToString(now.pattern) + ", " + signals;
    }
}
