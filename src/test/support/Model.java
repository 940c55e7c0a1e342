import java.math.BigInteger;
import java.util.ArrayDeque;
import java.util.ArrayList;
import java.util.Collections;
import java.util.Deque;
import java.util.List;

/**
 * The document once more, told as plainly as can be, to be compared with the program: nothing here changes but by
 * being replaced, and what is best is found by trying all. It shares no code with the program.
 */
final class Model {
    private static final int BAD = -1, NOT = -2, FULL = -3, NONE = -4, NULL = -11, CAST = -12, INDEX = -13, SIZE = -14;

    record Sit(char sort, int line, int hunger, int cold, int worry, int strain, int crusts, int news, int pride,
            boolean cloak, int down) {
        boolean sits() {
            return down < 0;
        }

        Sit strained(int v) {
            return new Sit(sort, line, hunger, cold, worry, v, crusts, news, pride, cloak, down);
        }

        Sit told(int v) {
            return new Sit(sort, line, hunger, cold, worry, strain, crusts, v, pride, cloak, down);
        }

        Sit fed() {
            int left = strain < 6 ? 0 : strain - 6;
            return new Sit(sort, line, hunger, cold, worry, left, crusts - 1, news, pride, cloak, down);
        }

        Sit praised() {
            return new Sit(sort, line, hunger, cold, worry, strain, crusts, news, pride + 1, cloak, down);
        }

        Sit cloaked(boolean is) {
            return new Sit(sort, line, hunger, cold, worry, strain, crusts, news, pride, is, down);
        }

        Sit trained(int a, int b, int c) {
            return new Sit(sort, line + a, hunger - b, cold - c, worry, strain, crusts, news, pride, cloak, down);
        }

        int growth(int sky, boolean night) {
            int chill = 0;
            if (sky == 1) chill += cold;
            if (night) chill += cold;
            if (cloak) chill /= 2;
            int care = switch (news) {
                case 0 -> worry / 2;
                case 1 -> 0;
                default -> worry;
            };
            int all = hunger + chill + care - pride;
            if (sort == 'h') all -= pride;
            if (sort == 'm') all += care;
            if (sort == 'y' || sort == 's') all += 1;
            if (all < 0) all = 0;
            if (sort == 's' && night) all /= 2;
            return all;
        }

        Sit after(int sky, boolean night, int hour) {
            if (!sits()) return this;
            Sit s = strained(Math.min(999, strain + growth(sky, night)));
            if (s.strain < s.line) return s;
            return new Sit(sort, line, hunger, cold, worry, s.strain, crusts, news, pride, cloak, hour);
        }
    }

    record World(List<Sit> sitters, int dusk, int crusts, int hour, int sky, long draw) {
        World with(int one, Sit s) {
            List<Sit> l = new ArrayList<>(sitters);
            l.set(one, s);
            return new World(l, dusk, crusts, hour, sky, draw);
        }

        World drawn(long v) {
            return new World(sitters, dusk, crusts, hour, sky, v);
        }

        World dusked(int v) {
            return new World(sitters, v, crusts, hour, sky, draw);
        }

        boolean night() {
            return hour % 24 >= dusk;
        }

        World after() {
            return after((int) ((draw * 16807 % 2147483647) % 3)).drawn(draw * 16807 % 2147483647);
        }

        World after(int by) {
            List<Sit> l = new ArrayList<>();
            for (Sit s : sitters) l.add(s.after(by, night(), hour));
            return new World(l, dusk, crusts, hour + 1, by, draw);
        }

        World after(World[] path, int n) {
            World w = this;
            for (int k = 0; k < n; k++) {
                w = w.after();
                if (path != null) path[k] = w;
            }
            return w;
        }

        long sitting() {
            return sitters.stream().filter(Sit::sits).count();
        }

        boolean has(int one) {
            return 0 <= one && one < sitters.size();
        }

        boolean none() {
            return sitters.isEmpty();
        }

        boolean sits(int one) {
            return sitters.get(one).sits();
        }
    }

    private final List<Integer> tape = new ArrayList<>();
    private World now = new World(List.of(), 0, 0, 0, 0, 1);
    private final Deque<World> before = new ArrayDeque<>();
    private final World[] images = new World[2];
    private final int[] lanes = new int[4];
    private final long[][] rows = new long[4][];

    private static boolean out(int v, int least, int most) {
        return v < least || v > most;
    }

    // ---- 1

    int feed(int letter) {
        if (out(letter, 0, 255)) return BAD;
        if (tape.size() == 90) return FULL;
        tape.add(letter);
        return tape.size();
    }

    /** Slots of a text: a sign for itself, D, C, S, L, N for what is told there. */
    int wall() {
        StringBuilder text = new StringBuilder();
        for (int b : tape) text.append((char) b);
        tape.clear();
        List<Integer> told = new ArrayList<>();
        int at = 0;
        String slots = "wD,C;" + "SL,N,N,N;".repeat(6);
        for (int k = 0; k < slots.length(); k++) {
            boolean mayEnd = k > 5 && (k - 5) % 9 == 0;
            if (at == text.length() && mayEnd) break;
            if (at == text.length()) return -100 - at;
            char slot = slots.charAt(k);
            char c = text.charAt(at);
            if (slot == 'S') {
                if ("phmys".indexOf(c) < 0) return -100 - at;
                told.add((int) c);
                at++;
            } else if (Character.isUpperCase(slot)) {
                int end = at;
                while (end < text.length() && text.charAt(end) >= '0' && text.charAt(end) <= '9') end++;
                if (end == at || end > at + 2) return -100 - at;
                int v = Integer.parseInt(text.substring(at, end));
                int least = slot == 'D' ? 1 : slot == 'L' ? 10 : 0;
                int most = slot == 'D' ? 24 : slot == 'L' ? 99 : 9;
                if (out(v, least, most)) return -100 - at;
                told.add(v);
                at = end;
            } else {
                if (c != slot) return -100 - at;
                at++;
            }
        }
        if (at < text.length()) return -100 - at;
        List<Sit> sitters = new ArrayList<>();
        for (int k = 2; k < told.size(); k += 5) {
            sitters.add(new Sit((char) (int) told.get(k), told.get(k + 1), told.get(k + 2), told.get(k + 3),
                told.get(k + 4), 0, told.get(1), 0, 0, false, NONE));
        }
        now = new World(sitters, told.get(0), told.get(1), 0, 0, now.draw);
        before.clear();
        return sitters.size();
    }

    int sitter(int one, int what) {
        if (!now.has(one) || out(what, 0, 10)) return BAD;
        Sit s = now.sitters.get(one);
        int[] all = {"phmys".indexOf(s.sort) + 1, s.line, s.hunger, s.cold, s.worry, s.strain, s.crusts, s.news,
            s.pride, s.cloak ? 1 : 0, s.down};
        return all[what];
    }

    int growth(int one, int sky) {
        if (!now.has(one) || out(sky, 0, 2)) return BAD;
        return now.sitters.get(one).growth(sky, now.night());
    }

    int as(int one, int kind) {
        if (!now.has(one) || out(kind, 0, 5)) return BAD;
        String such = switch (now.sitters.get(one).sort) {
            case 'p' -> "01";
            case 'h' -> "012";
            case 'm' -> "013";
            case 'y' -> "04";
            default -> "045";
        };
        return such.indexOf('0' + kind) >= 0 ? one : CAST;
    }

    // ---- 2

    private void act(World next) {
        before.push(now);
        if (before.size() > 20) before.removeLast();
        now = next;
    }

    int hours(int n) {
        if (out(n, 1, 24)) return BAD;
        if (now.none()) return NOT;
        if (now.hour + n >= 10000) return FULL;
        for (int k = 0; k < n; k++) act(now.after());
        return (int) now.sitting();
    }

    int crust(int one) {
        if (!now.has(one)) return BAD;
        if (!now.sits(one) || now.sitters.get(one).crusts == 0) return NOT;
        act(now.with(one, now.sitters.get(one).fed()));
        return now.sitters.get(one).strain;
    }

    int news(int one, int v) {
        if (!now.has(one) || out(v, 0, 2)) return BAD;
        if (!now.sits(one)) return NOT;
        int was = now.sitters.get(one).news;
        act(now.with(one, now.sitters.get(one).told(v)));
        return was;
    }

    int praise(int one) {
        if (!now.has(one)) return BAD;
        if (!now.sits(one) || now.sitters.get(one).pride == 9) return NOT;
        act(now.with(one, now.sitters.get(one).praised()));
        return now.sitters.get(one).pride;
    }

    int cloak(int one, int is) {
        if (!now.has(one) || out(is, 0, 1)) return BAD;
        if (!now.sits(one) || now.sitters.get(one).cloak == (is == 1)) return NOT;
        act(now.with(one, now.sitters.get(one).cloaked(is == 1)));
        return (int) now.sitters.stream().filter(Sit::cloak).count();
    }

    int heir(int one) {
        if (!now.has(one)) return BAD;
        if (now.sits(one)) return NOT;
        Sit s = now.sitters.get(one);
        int line = s.line < 12 ? 10 : s.line - 2;
        act(now.with(one, new Sit(s.sort, line, s.hunger, s.cold, s.worry, 0, now.crusts, 0, 0, false, NONE)));
        return line;
    }

    int undo() {
        if (before.isEmpty()) return NONE;
        now = before.pop();
        return before.size();
    }

    int seed(int v) {
        if (out(v, 1, 2147483646)) return BAD;
        int was = (int) now.draw;
        now = now.drawn(v);
        return was;
    }

    int image(int k) {
        if (out(k, 0, 1)) return BAD;
        if (now.none()) return NOT;
        images[k] = now;
        return (int) now.sitting();
    }

    int restore(int k) {
        if (out(k, 0, 1)) return BAD;
        if (images[k] == null) return NOT;
        now = images[k];
        before.clear();
        return (int) now.sitting();
    }

    // ---- 3

    int strain(int one, int n) {
        if (!now.has(one) || out(n, 0, 60)) return BAD;
        return now.after(null, n).sitters.get(one).strain;
    }

    int down(int one) {
        if (!now.has(one)) return BAD;
        if (!now.sits(one)) return 0;
        World w = now;
        for (int n = 1; n <= 60; n++) {
            w = w.after();
            if (!w.sits(one)) return n;
        }
        return NONE;
    }

    private int two(int one, int other) {
        if (!now.has(one) || !now.has(other) || one == other) return BAD;
        return now.sits(one) && now.sits(other) ? 0 : NOT;
    }

    int duel(int one, int other) {
        int no = two(one, other);
        if (no < 0) return no;
        int a = down(one);
        int b = down(other);
        if (a == b) return NONE;
        if (a == NONE) return one;
        if (b == NONE) return other;
        return a > b ? one : other;
    }

    int honour(int one) {
        if (!now.has(one)) return BAD;
        if (!now.sits(one)) return NOT;
        int sum = 10;
        for (int k = 0; k < now.sitters.size(); k++) {
            if (k == one || !now.sits(k)) continue;
            int d = duel(one, k);
            if (d == one) sum++;
            if (d == k) sum--;
        }
        return sum;
    }

    private World[] eating(int one, int n, int set) {
        World w = now;
        World[] path = new World[n];
        for (int k = 0; k < n; k++) {
            Sit s = w.sitters.get(one);
            if ((set & 1 << k) != 0 && s.sits()) w = w.with(one, s.fed());
            w = w.after();
            path[k] = w;
        }
        return path;
    }

    int eat(int one, int n, int what) {
        if (!now.has(one) || out(n, 1, 8) || out(what, 0, 1)) return BAD;
        if (!now.sits(one)) return NOT;
        int[] best = null;
        for (int set = 0; set < 1 << n; set++) {
            int many = Integer.bitCount(set);
            if (many > now.sitters.get(one).crusts) continue;
            int hours = 0;
            for (World w : eating(one, n, set)) {
                if (w.sits(one)) hours++;
            }
            int[] key = {-hours, many, set};
            if (best == null || java.util.Arrays.compare(key, best) < 0) best = key;
        }
        return what == 0 ? -best[0] : best[2];
    }

    int train(int one, int n, int what) {
        if (!now.has(one) || out(n, 1, 40) || out(what, 0, 3)) return BAD;
        if (!now.sits(one)) return NOT;
        Sit s = now.sitters.get(one);
        World[] path = new World[n];
        now.after(path, n);
        int[] best = null;
        for (int a = 0; a <= 20 && s.line + a <= 99; a++) {
            for (int b = 0; b <= s.hunger; b++) {
                for (int c = 0; c <= s.cold; c++) {
                    int[] key = {2 * a + 5 * b + 3 * c, a, b, c};
                    if (best != null && java.util.Arrays.compare(key, best) > 0) continue;
                    Sit t = s.trained(a, b, c);
                    for (int k = 0; k < n; k++) {
                        t = t.after(path[k].sky, (now.hour + k) % 24 >= now.dusk, k);
                    }
                    if (t.sits()) best = key;
                }
            }
        }
        return best == null ? NONE : best[what];
    }

    int dusk(int n) {
        if (out(n, 1, 40)) return BAD;
        if (now.none()) return NOT;
        int best = NONE;
        for (int d = 1; d <= 24; d++) {
            if (now.dusked(d).after(null, n).sitting() <= 1) best = d;
        }
        return best;
    }

    /** Ways out of 10^n, each set of windy hours by itself. */
    private BigInteger ways(int one, int other, int n, int p) {
        BigInteger sum = BigInteger.ZERO;
        for (int winds = 0; winds < 1 << n; winds++) {
            Sit a = now.sitters.get(one);
            Sit b = now.sitters.get(other);
            BigInteger weight = BigInteger.ONE;
            for (int k = 0; k < n; k++) {
                boolean windy = (winds & 1 << k) != 0;
                weight = weight.multiply(BigInteger.valueOf(windy ? p : 10 - p));
                boolean night = (now.hour + k) % 24 >= now.dusk;
                a = a.after(windy ? 1 : 0, night, k);
                b = b.after(windy ? 1 : 0, night, k);
            }
            if (!b.sits() && (a.sits() || a.down > b.down)) sum = sum.add(weight);
        }
        return sum;
    }

    long odds(int one, int other, int n, int p, int part) {
        if (out(n, 0, 10) || out(p, 0, 10) || out(part, 0, 1)) return BAD;
        int no = two(one, other);
        if (no < 0) return no;
        BigInteger above = ways(one, other, n, p);
        BigInteger below = BigInteger.TEN.pow(n);
        BigInteger both = above.gcd(below);
        return (part == 0 ? above : below).divide(both).longValueExact();
    }

    int challenge(int one, int n, int p) {
        if (!now.has(one) || out(n, 0, 10) || out(p, 0, 10)) return BAD;
        if (!now.sits(one)) return NOT;
        int best = NONE;
        BigInteger most = null;
        for (int k = now.sitters.size() - 1; k >= 0; k--) {
            if (k == one || !now.sits(k)) continue;
            BigInteger w = ways(one, k, n, p);
            if (most == null || w.compareTo(most) >= 0) {
                most = w;
                best = k;
            }
        }
        return best;
    }

    int game(int one, int other, int n) {
        if (out(n, 0, 3)) return BAD;
        int no = two(one, other);
        if (no < 0) return no;
        return 2000 + edge(now, one, other, n);
    }

    private static List<World> turns(World w, int own, int adversary) {
        List<World> all = new ArrayList<>();
        all.add(w);
        Sit s = w.sitters.get(own);
        if (s.sits() && s.crusts > 0) all.add(w.with(own, s.fed()));
        if (w.sits(adversary)) all.add(w.with(adversary, w.sitters.get(adversary).told(2)));
        return all;
    }

    private static int edge(World w, int one, int other, int n) {
        if (n == 0) {
            Sit a = w.sitters.get(one);
            Sit b = w.sitters.get(other);
            return (a.line - a.strain) - (b.line - b.strain);
        }
        List<Integer> firsts = new ArrayList<>();
        for (World first : turns(w, one, other)) {
            List<Integer> seconds = new ArrayList<>();
            for (World second : turns(first, other, one)) seconds.add(edge(second.after(), one, other, n - 1));
            firsts.add(Collections.min(seconds));
        }
        return Collections.max(firsts);
    }

    // ---- 4

    private static long lowest(int lane, long v) {
        int bits = 8 << lane;
        return v << 64 - bits >> 64 - bits;
    }

    private int row(int sheet, int lane, long i, long n) {
        if (out(sheet, 0, 3) || out(lane, 0, 3)) return BAD;
        if (rows[sheet] == null) return NULL;
        if (lanes[sheet] != lane) return CAST;
        return i < 0 || n < 0 || i + n > rows[sheet].length ? INDEX : 0;
    }

    int sheet(int sheet, int lane, int n) {
        if (out(sheet, 0, 3) || out(lane, 0, 3) || n > 24) return BAD;
        if (n < 0) return SIZE;
        rows[sheet] = new long[n];
        lanes[sheet] = lane;
        return n;
    }

    int drop(int sheet) {
        if (out(sheet, 0, 3)) return BAD;
        if (rows[sheet] == null) return NULL;
        int n = rows[sheet].length;
        rows[sheet] = null;
        return n;
    }

    long item(int sheet, int lane, int i, long v) {
        int no = row(sheet, lane, i, 1);
        if (no < 0) return no;
        rows[sheet][i] = lowest(lane, v);
        return rows[sheet][i];
    }

    int copy(int from, int i, int to, int j, int n) {
        if (out(from, 0, 3) || out(to, 0, 3)) return BAD;
        if (rows[from] == null || rows[to] == null) return NULL;
        if (lanes[from] != lanes[to]) return CAST;
        int a = row(from, lanes[from], i, n);
        int b = row(to, lanes[to], j, n);
        if (a < 0 || b < 0) return INDEX;
        long[] taken = rows[from].clone();
        for (int k = 0; k < n; k++) rows[to][j + k] = taken[i + k];
        return n;
    }

    int film(int one, int n, int sheet, int lane, int i) {
        if (!now.has(one) || out(n, 1, 24)) return BAD;
        int no = row(sheet, lane, i, n);
        if (no < 0) return no;
        for (int k = 0; k < n; k++) rows[sheet][i + k] = lowest(lane, strain(one, k + 1));
        return n;
    }

    /** Items as told, or null. */
    private int[] items(int sheet, int i, int n, int most) {
        int[] got = new int[n];
        for (int k = 0; k < n; k++) {
            long v = rows[sheet][i + k];
            if (v < 0 || v > most) return null;
            got[k] = (int) v;
        }
        return got;
    }

    int round(int sheet, int lane, int i, int n, int what) {
        if (out(n, 2, 7) || out(what, 0, 1)) return BAD;
        int no = row(sheet, lane, i, 2 * n);
        if (no < 0) return no;
        int[] places = items(sheet, i, 2 * n, 99);
        if (places == null) return NOT;
        int[] best = {Integer.MAX_VALUE, 0};
        List<Integer> rest = new ArrayList<>();
        for (int k = 1; k < n; k++) rest.add(k);
        allRounds(places, new ArrayList<>(List.of(0)), rest, best);
        return best[what];
    }

    private static void allRounds(int[] places, List<Integer> way, List<Integer> rest, int[] best) {
        if (rest.isEmpty()) {
            int length = 0;
            for (int k = 0; k < way.size(); k++) {
                int a = way.get(k);
                int b = way.get((k + 1) % way.size());
                length += Math.abs(places[2 * a] - places[2 * b]) + Math.abs(places[2 * a + 1] - places[2 * b + 1]);
            }
            if (length < best[0] || length == best[0] && way.get(1) < best[1]) {
                best[0] = length;
                best[1] = way.get(1);
            }
            return;
        }
        for (int k = 0; k < rest.size(); k++) {
            List<Integer> on = new ArrayList<>(way);
            List<Integer> left = new ArrayList<>(rest);
            on.add(left.remove(k));
            allRounds(places, on, left, best);
        }
    }

    private static int known(int[] pairs, int set) {
        int known = set;
        boolean more = true;
        while (more) {
            more = false;
            for (int k = 0; k < pairs.length; k += 2) {
                if ((known & 1 << pairs[k]) != 0 && (known & 1 << pairs[k + 1]) == 0) {
                    known |= 1 << pairs[k + 1];
                    more = true;
                }
            }
        }
        return known;
    }

    int goesOn(int sheet, int lane, int i, int n, int set) {
        if (out(n, 0, 12) || out(set, 0, 255)) return BAD;
        int no = row(sheet, lane, i, 2 * n);
        if (no < 0) return no;
        int[] pairs = items(sheet, i, 2 * n, 7);
        return pairs == null ? NOT : known(pairs, set);
    }

    int told(int sheet, int lane, int i, int n, int what) {
        if (out(n, 0, 12) || out(what, 0, 1)) return BAD;
        int no = row(sheet, lane, i, 2 * n);
        if (no < 0) return no;
        int[] pairs = items(sheet, i, 2 * n, 7);
        if (pairs == null) return NOT;
        for (int many = 0; many <= 8; many++) {
            for (int set = 0; set < 256; set++) {
                if (Integer.bitCount(set) == many && known(pairs, set) == 255) return what == 0 ? many : set;
            }
        }
        throw new IllegalStateException("all know if all are told");
    }

    int ate(int one, int sheet, int lane, int i, int n, int what) {
        if (!now.has(one) || out(n, 1, 8) || out(what, 0, 1)) return BAD;
        int no = row(sheet, lane, i, n);
        if (no < 0) return no;
        if (!now.sits(one)) return NOT;
        List<Integer> sets = new ArrayList<>();
        for (int set = 0; set < 1 << n; set++) {
            if (Integer.bitCount(set) > now.sitters.get(one).crusts) continue;
            boolean so = true;
            World[] path = eating(one, n, set);
            for (int k = 0; k < n; k++) so &= path[k].sitters.get(one).strain == rows[sheet][i + k];
            if (so) sets.add(set);
        }
        if (what == 0) return sets.size();
        return sets.isEmpty() ? NONE : sets.get(0);
    }

    int count(int what) {
        int crusts = 0;
        for (Sit s : now.sitters) crusts += s.crusts;
        int[] all = {now.sitters.size(), (int) now.sitting(), now.hour, now.dusk, now.crusts, crusts, now.sky,
            !now.none() && now.night() ? 1 : 0, before.size(), tape.size()};
        return out(what, 0, 9) ? BAD : all[what];
    }

    // ---- to make runs that tell much

    int sitters() {
        return now.sitters.size();
    }

    int lane(int sheet) {
        return lanes[sheet];
    }

    int crustsOf(int one) {
        return now.has(one) ? now.sitters.get(one).crusts : 0;
    }

    /** Strains of one who eats by a set. */
    int[] strains(int one, int n, int set) {
        World[] path = eating(one, n, set);
        int[] got = new int[n];
        for (int k = 0; k < n; k++) got[k] = path[k].sitters.get(one).strain;
        return got;
    }
}
