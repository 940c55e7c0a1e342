import java.util.ArrayList;
import java.util.Arrays;
import java.util.LinkedHashMap;
import java.util.List;
import java.util.Map;

/**
 * "Answers below 0, of several the first that a call names" and "what is refused changes nothing": every call of the
 * face, each of its numbers on both sides of what is told and far outside, beside all else that could be refused.
 */
public final class RefusedTest {
    private static final int BAD = WallPatience.BAD, NOT = WallPatience.NOT, FULL = WallPatience.FULL;
    private static final int NONE = WallPatience.NONE, NULL = WallPatience.NULL, CAST = WallPatience.CAST;
    private static final int INDEX = WallPatience.INDEX, SIZE = WallPatience.SIZE;
    private static final long MIN = Integer.MIN_VALUE, MAX = Integer.MAX_VALUE;
    private static final int AT_ONCE = 100;

    /** Sitter 1 is down, all others sit; 3 has eaten all and has pride 9, a cloak. 26 acts and more, image 0 alone. */
    private static final int DOWN = 1, FED = 3;
    /** Lanes and sizes of the sheets of the scene; sheet 3 is nothing. */
    private static final int[] LANES = {0, 3, 1}, SIZES = {24, 4, 0};
    private static final int NOTHING = 3;
    private static final Scene FULL_OF_ALL = new Scene(RefusedTest::past);
    private static final Scene NEW = new Scene(x -> { });

    private static final Due due = new Due();

    /** What a number may be; outside of it the call is BAD, if that is so told; what is tried beside other numbers. */
    private record Slot(long least, long most, boolean isBad, long... tried) { }

    private static final Slot ONE = new Slot(0, 3, true, 0, 1, 3);
    private static final Slot SHEET = new Slot(0, 3, true, 0, 1, 2, 3);
    private static final Slot LANE = new Slot(0, 3, true, 0, 1, 2, 3);
    private static final Slot PLACE = new Slot(MIN, MAX, false, 0, 3, 24, 25, -1, MIN, MAX);
    private static final Slot FREE = new Slot(MIN, MAX, false, 5);
    private static final Map<String, Slot[]> FACE = face();

    public static void main(String[] args) {
        theFirstIsBad();
        farOutside();
        allOutside();
        lastOnesAreTaken();
        oneOfAWall();
        oneAndHimself();
        sizes();
        rows();
        copies();
        whoIsDown();
        actsThatCannotBe();
        withoutAWall();
        fullTape();
        due.end();
    }

    private static void past(WallPatience x) {
        Due.feed(x, "w20,3;p99,0,1,2;h12,6,2,6;s80,0,3,2;m99,0,2,9;");
        x.wall();
        x.seed(12345);
        x.sheet(0, 0, 24);
        for (int i = 0; i < 24; i++) {
            x.item(0, 0, i, i * 5 % 8);
        }
        x.sheet(1, 3, 4);
        Due.fill(x, 1, 3, 5, 50, 99, 8);
        x.sheet(2, 1, 0);
        x.hours(3);
        x.image(0);
        for (int k = 0; k < 9; k++) {
            x.praise(FED);
        }
        for (int k = 0; k < 3; k++) {
            x.crust(FED);
        }
        x.cloak(FED, 1);
        x.news(0, 2);
        x.hours(15);
        x.crust(0);
        x.cloak(2, 1);
        Due.feed(x, "w7,2;");
    }

    private static Slot to(long least, long most) {
        return new Slot(least, most, true, least, most);
    }

    private static Map<String, Slot[]> face() {
        Map<String, Slot[]> all = new LinkedHashMap<>();
        all.put("feed", new Slot[] {to(0, 255)});
        all.put("sitter", new Slot[] {ONE, to(0, 10)});
        all.put("growth", new Slot[] {ONE, to(0, 2)});
        all.put("as", new Slot[] {ONE, to(0, 5)});
        all.put("hours", new Slot[] {to(1, 24)});
        all.put("crust", new Slot[] {ONE});
        all.put("news", new Slot[] {ONE, to(0, 2)});
        all.put("praise", new Slot[] {ONE});
        all.put("cloak", new Slot[] {ONE, to(0, 1)});
        all.put("heir", new Slot[] {ONE});
        all.put("seed", new Slot[] {to(1, 2147483646)});
        all.put("image", new Slot[] {to(0, 1)});
        all.put("restore", new Slot[] {to(0, 1)});
        all.put("strain", new Slot[] {ONE, to(0, 60)});
        all.put("down", new Slot[] {ONE});
        all.put("duel", new Slot[] {ONE, ONE});
        all.put("honour", new Slot[] {ONE});
        all.put("eat", new Slot[] {ONE, to(1, 8), to(0, 1)});
        all.put("train", new Slot[] {ONE, to(1, 40), to(0, 3)});
        all.put("dusk", new Slot[] {to(1, 40)});
        all.put("odds", new Slot[] {ONE, ONE, to(0, 10), to(0, 10), to(0, 1)});
        all.put("challenge", new Slot[] {ONE, to(0, 10), to(0, 10)});
        all.put("game", new Slot[] {ONE, ONE, to(0, 3)});
        all.put("sheet", new Slot[] {SHEET, LANE, new Slot(MIN, 24, true, 0, 24, -1, MIN)});
        all.put("drop", new Slot[] {SHEET});
        all.put("item", new Slot[] {SHEET, LANE, PLACE, FREE});
        all.put("copy", new Slot[] {SHEET, PLACE, SHEET, PLACE, new Slot(MIN, MAX, false, 0, 1, -1, MIN, MAX)});
        all.put("film", new Slot[] {ONE, to(1, 24), SHEET, LANE, PLACE});
        all.put("round", new Slot[] {SHEET, LANE, PLACE, to(2, 7), to(0, 1)});
        all.put("goesOn", new Slot[] {SHEET, LANE, PLACE, to(0, 12), to(0, 255)});
        all.put("told", new Slot[] {SHEET, LANE, PLACE, to(0, 12), to(0, 1)});
        all.put("ate", new Slot[] {ONE, SHEET, LANE, PLACE, to(1, 8), to(0, 1)});
        all.put("count", new Slot[] {to(0, 9)});
        return all;
    }

    // ---- refused calls, many to an object

    private static final List<Call> waiting = new ArrayList<>();
    private static final List<Long> answers = new ArrayList<>();

    private static void refused(Scene scene, Call call, long answer) {
        waiting.add(call);
        answers.add(answer);
        if (waiting.size() == AT_ONCE) {
            askWaiting(scene);
        }
    }

    private static void askWaiting(Scene scene) {
        WallPatience x = scene.make();
        for (int k = 0; k < waiting.size(); k++) {
            due.is(waiting.get(k).toString(), waiting.get(k).askOf(x), answers.get(k));
        }
        if (!scene.staysBehind(waiting)) {
            for (Call c : waiting) {
                due.isTrue(c + " changes nothing", scene.staysBehind(List.of(c)));
            }
            due.isTrue("all stays behind " + waiting, false);
        }
        waiting.clear();
        answers.clear();
    }

    // ---- what is tried

    private static List<Long> justOutside(Slot slot) {
        List<Long> all = new ArrayList<>();
        for (long v : new long[] {slot.least - 1, slot.most + 1, MIN, MAX}) {
            if (isOutside(slot, v)) {
                all.add(v);
            }
        }
        return all;
    }

    private static List<Long> wild(Slot slot) {
        List<Long> all = justOutside(slot);
        for (int bit = 4; bit < 32; bit++) {
            // a number of few bits that was taken would be seen here again, and one that is doubled
            for (long v : new long[] {(1L << bit) + slot.least, (1L << bit) + slot.most, slot.least - (1L << bit),
                slot.most - (1L << bit), 1L << bit, -(1L << bit), (1L << bit) - 1}) {
                if (isOutside(slot, v) && !all.contains(v)) {
                    all.add(v);
                }
            }
        }
        return all;
    }

    private static boolean isOutside(Slot slot, long v) {
        return v >= MIN && v <= MAX && (v < slot.least || v > slot.most);
    }

    /** All rows of arguments in which argument k is v, and the others are what is tried of them. */
    private static List<long[]> products(Slot[] slots, int k, long v) {
        List<long[]> all = new ArrayList<>();
        all.add(new long[slots.length]);
        for (int s = 0; s < slots.length; s++) {
            long[] values = s == k ? new long[] {v} : slots[s].tried;
            List<long[]> more = new ArrayList<>();
            for (long[] row : all) {
                for (long value : values) {
                    long[] next = row.clone();
                    next[s] = value;
                    more.add(next);
                }
            }
            all = more;
        }
        return all;
    }

    private static long[] ordinary(Slot[] slots) {
        long[] row = new long[slots.length];
        for (int s = 0; s < slots.length; s++) {
            row[s] = slots[s].tried[0];
        }
        return row;
    }

    // ---- BAD

    /** A number just outside is BAD, whatever else could be refused: all calls name BAD first. */
    private static void theFirstIsBad() {
        for (Map.Entry<String, Slot[]> e : FACE.entrySet()) {
            Slot[] slots = e.getValue();
            for (int k = 0; k < slots.length; k++) {
                if (!slots[k].isBad) {
                    continue;
                }
                for (long v : justOutside(slots[k])) {
                    for (long[] row : products(slots, k, v)) {
                        refused(FULL_OF_ALL, new Call(e.getKey(), row), BAD);
                    }
                }
            }
        }
        askWaiting(FULL_OF_ALL);
    }

    private static void farOutside() {
        for (Map.Entry<String, Slot[]> e : FACE.entrySet()) {
            Slot[] slots = e.getValue();
            for (int k = 0; k < slots.length; k++) {
                if (!slots[k].isBad) {
                    continue;
                }
                for (long v : wild(slots[k])) {
                    long[] row = ordinary(slots);
                    row[k] = v;
                    refused(FULL_OF_ALL, new Call(e.getKey(), row), BAD);
                }
            }
        }
        askWaiting(FULL_OF_ALL);
    }

    private static void allOutside() {
        for (Map.Entry<String, Slot[]> e : FACE.entrySet()) {
            for (long v : new long[] {MIN, MAX}) {
                long[] row = new long[e.getValue().length];
                Arrays.fill(row, v);
                refused(FULL_OF_ALL, new Call(e.getKey(), row), BAD);
            }
        }
        askWaiting(FULL_OF_ALL);
    }

    /** The least and the greatest that are told are not BAD. */
    private static void lastOnesAreTaken() {
        for (Map.Entry<String, Slot[]> e : FACE.entrySet()) {
            Slot[] slots = e.getValue();
            for (int k = 0; k < slots.length; k++) {
                if (!slots[k].isBad) {
                    continue;
                }
                for (long v : new long[] {slots[k].least, slots[k].most}) {
                    long[] row = ordinary(slots);
                    if (slots.length > 1 && slots[1] == ONE) {
                        // not himself
                        row[k == 0 ? 1 : 0] = 2;
                    }
                    row[k] = v;
                    Call c = new Call(e.getKey(), row);
                    due.isTrue(c + " is not BAD", c.askOf(FULL_OF_ALL.make()) != BAD);
                }
            }
        }
    }

    /** One is BAD from the number of sitters on, whether the wall has one or six. */
    private static void oneOfAWall() {
        for (int n = 1; n <= 6; n++) {
            String text = "w5,1;" + "p10,0,0,0;".repeat(n);
            Scene scene = new Scene(x -> {
                Due.feed(x, text);
                x.wall();
            });
            for (Map.Entry<String, Slot[]> e : FACE.entrySet()) {
                Slot[] slots = e.getValue();
                for (int k = 0; k < slots.length; k++) {
                    if (slots[k] != ONE) {
                        continue;
                    }
                    long[] row = ordinary(slots);
                    row[k] = n;
                    refused(scene, new Call(e.getKey(), row.clone()), BAD);
                    row[k] = n - 1;
                    boolean withAnother = slots.length > 1 && slots[1] == ONE;
                    boolean alone = withAnother && n == 1;
                    if (withAnother) {
                        row[1 - k] = n == 1 ? 0 : n - 2;
                    }
                    Call last = new Call(e.getKey(), row);
                    due.isTrue(last + " of " + n, last.askOf(scene.make()) == BAD == alone);
                }
            }
            askWaiting(scene);
        }
    }

    /** "BAD: also one and himself", whether he sits or not. */
    private static void oneAndHimself() {
        for (int one = 0; one < 4; one++) {
            refused(FULL_OF_ALL, new Call("duel", one, one), BAD);
            for (int n = 0; n <= 3; n++) {
                refused(FULL_OF_ALL, new Call("game", one, one, n), BAD);
            }
            for (int n = 0; n <= 10; n++) {
                refused(FULL_OF_ALL, new Call("odds", one, one, n, 10 - n, n % 2), BAD);
            }
        }
        askWaiting(FULL_OF_ALL);
    }

    // ---- sheets

    /** "SIZE: n below 0", behind BAD. */
    private static void sizes() {
        for (int sheet = 0; sheet < 4; sheet++) {
            for (int lane = 0; lane < 4; lane++) {
                for (long n : new long[] {-1, -2, -24, -25, -256, MIN + 24, MIN + 1, MIN}) {
                    refused(FULL_OF_ALL, new Call("sheet", sheet, lane, n), SIZE);
                }
            }
        }
        refused(FULL_OF_ALL, new Call("drop", NOTHING), NULL);
        askWaiting(FULL_OF_ALL);
    }

    private static int rowRefusal(long sheet, long lane, long i, long items) {
        if (sheet == NOTHING) {
            return NULL;
        }
        if (lane != LANES[(int) sheet]) {
            return CAST;
        }
        return i < 0 || i + items > SIZES[(int) sheet] ? INDEX : 0;
    }

    private static int refusal(Call c) {
        long[] a = c.args();
        switch (c.name()) {
            case "item":
                return rowRefusal(a[0], a[1], a[2], 1);
            case "film":
                return rowRefusal(a[2], a[3], a[4], a[1]);
            case "round":
                return rowRefusal(a[0], a[1], a[2], 2 * a[3]);
            case "ate":
                int ate = rowRefusal(a[1], a[2], a[3], a[4]);
                return ate == 0 && a[0] == DOWN ? NOT : ate;
            default:
                int row = rowRefusal(a[0], a[1], a[2], 2 * a[3]);
                // no people are 50, 99 and 8
                return row == 0 && a[0] == 1 && a[3] > 0 ? NOT : row;
        }
    }

    /** NULL, CAST, INDEX and NOT come in this order; what is not refused by them is taken. */
    private static void rows() {
        int taken = 0;
        for (String name : List.of("item", "film", "round", "goesOn", "told", "ate")) {
            for (long[] row : products(FACE.get(name), -1, 0)) {
                Call c = new Call(name, row);
                int refusal = refusal(c);
                if (refusal != 0) {
                    refused(FULL_OF_ALL, c, refusal);
                } else {
                    taken++;
                    long answer = c.askOf(FULL_OF_ALL.make());
                    boolean fine = answer >= 0 || answer == NONE && name.equals("ate");
                    due.isTrue(c + " is taken, answered " + answer, fine);
                }
            }
        }
        askWaiting(FULL_OF_ALL);
        due.isTrue("some are taken", taken > 20);
    }

    /** "NULL (either); CAST: of unlike LANES; INDEX (n below 0, too)". */
    private static void copies() {
        for (long[] a : products(FACE.get("copy"), -1, 0)) {
            Call c = new Call("copy", a);
            int refusal = 0;
            if (a[0] == NOTHING || a[2] == NOTHING) {
                refusal = NULL;
            } else if (LANES[(int) a[0]] != LANES[(int) a[2]]) {
                refusal = CAST;
            } else if (a[4] < 0 || rowRefusal(a[0], LANES[(int) a[0]], a[1], a[4]) != 0
                || rowRefusal(a[2], LANES[(int) a[2]], a[3], a[4]) != 0) {
                refusal = INDEX;
            }
            if (refusal != 0) {
                refused(FULL_OF_ALL, c, refusal);
            } else {
                due.is(c.toString(), c.askOf(FULL_OF_ALL.make()), a[4]);
            }
        }
        askWaiting(FULL_OF_ALL);
    }

    // ---- NOT, NONE, FULL

    /** "NOT: he is DOWN", "NOT: one is DOWN". */
    private static void whoIsDown() {
        for (Map.Entry<String, Slot[]> e : FACE.entrySet()) {
            Slot[] slots = e.getValue();
            if (slots[0] != ONE || List.of("sitter", "growth", "as", "heir", "strain", "down", "film", "ate")
                .contains(e.getKey())) {
                continue;
            }
            for (long[] row : products(slots, 0, DOWN)) {
                boolean himself = slots.length > 1 && slots[1] == ONE && row[1] == DOWN;
                refused(FULL_OF_ALL, new Call(e.getKey(), row), himself ? BAD : NOT);
            }
            if (slots.length > 1 && slots[1] == ONE) {
                for (long[] row : products(slots, 1, DOWN)) {
                    refused(FULL_OF_ALL, new Call(e.getKey(), row), row[0] == DOWN ? BAD : NOT);
                }
            }
        }
        askWaiting(FULL_OF_ALL);
    }

    private static void actsThatCannotBe() {
        refused(FULL_OF_ALL, new Call("crust", FED), NOT);
        refused(FULL_OF_ALL, new Call("praise", FED), NOT);
        refused(FULL_OF_ALL, new Call("cloak", FED, 1), NOT);
        refused(FULL_OF_ALL, new Call("cloak", 2, 1), NOT);
        refused(FULL_OF_ALL, new Call("cloak", 0, 0), NOT);
        for (int one : new int[] {0, 2, 3}) {
            refused(FULL_OF_ALL, new Call("heir", one), NOT);
        }
        refused(FULL_OF_ALL, new Call("restore", 1), NOT);
        refused(FULL_OF_ALL, new Call("as", 0, 2), CAST);
        askWaiting(FULL_OF_ALL);
    }

    private static void withoutAWall() {
        for (Map.Entry<String, Slot[]> e : FACE.entrySet()) {
            Slot[] slots = e.getValue();
            for (Slot slot : slots) {
                if (slot == ONE) {
                    // there is no such one, whatever else there is not
                    for (long[] row : products(slots, -1, 0)) {
                        refused(NEW, new Call(e.getKey(), row), BAD);
                    }
                    break;
                }
            }
        }
        for (int n : new int[] {1, 24}) {
            refused(NEW, new Call("hours", n), NOT);
            refused(NEW, new Call("dusk", n), NOT);
            refused(NEW, new Call("dusk", 40), NOT);
        }
        for (int k = 0; k < 2; k++) {
            refused(NEW, new Call("image", k), NOT);
            refused(NEW, new Call("restore", k), NOT);
        }
        refused(NEW, new Call("undo"), NONE);
        for (String name : List.of("hours", "dusk")) {
            for (long n : new long[] {0, -1, 41, MIN, MAX}) {
                refused(NEW, new Call(name, n), BAD);
            }
        }
        for (String name : List.of("image", "restore")) {
            for (long n : new long[] {2, -1, MIN, MAX}) {
                refused(NEW, new Call(name, n), BAD);
            }
        }
        for (int sheet = 0; sheet < 4; sheet++) {
            refused(NEW, new Call("drop", sheet), NULL);
            for (int to = 0; to < 4; to++) {
                refused(NEW, new Call("copy", sheet, 0, to, 0, 0), NULL);
            }
            for (int lane = 0; lane < 4; lane++) {
                refused(NEW, new Call("item", sheet, lane, 0, 0), NULL);
                refused(NEW, new Call("round", sheet, lane, 0, 2, 0), NULL);
                refused(NEW, new Call("goesOn", sheet, lane, 0, 0, 0), NULL);
                refused(NEW, new Call("told", sheet, lane, 0, 0, 0), NULL);
            }
        }
        // an empty tape faults at its end, and is empty then as it was
        refused(NEW, new Call("wall"), -100);
        askWaiting(NEW);
    }

    private static void fullTape() {
        Scene scene = new Scene(x -> {
            Due.feed(x, "w7,2;p20,1,1,1;");
            x.wall();
            Due.feed(x, "w7,2;" + "p20,1,1,1;".repeat(6) + "p".repeat(25));
        });
        due.is("90 bytes", scene.make().count(9), 90);
        for (int b : new int[] {0, 1, 'p', 'w', ';', 127, 128, 254, 255}) {
            refused(scene, new Call("feed", b), FULL);
        }
        for (long b : new long[] {-1, 256, MIN, MAX}) {
            refused(scene, new Call("feed", b), BAD);
        }
        askWaiting(scene);
    }
}
