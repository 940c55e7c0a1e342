import java.util.Arrays;

/** The boundary cases of part 4, a test for each sentence that names one: rows, rounds, news, who ate when. */
public final class SheetsEdgesTest {
    private static final int BAD = WallPatience.BAD, NOT = WallPatience.NOT, NONE = WallPatience.NONE;
    private static final int NULL = WallPatience.NULL, CAST = WallPatience.CAST;
    private static final int INDEX = WallPatience.INDEX, SIZE = WallPatience.SIZE;
    private static final int MIN = Integer.MIN_VALUE, MAX = Integer.MAX_VALUE;
    private static final Due due = new Due();

    public static void main(String[] args) {
        sheets0To3();
        sizes0To24();
        badAheadOfSize();
        newRowIsOfItems0();
        dropNothing();
        itemBounds();
        lowestBits();
        itemsStayByThemselves();
        copyNone();
        copyAll();
        copyOverItself();
        copyBounds();
        copyLowestBits();
        filmHours1To24();
        filmBounds();
        filmLowestBits();
        filmOfWhoIsDown();
        roundWalls2To7();
        roundItems0To99();
        roundFirstIsTheLeastThatCan();
        pairs0To12();
        people0To7();
        setsOf0To255();
        goesOnAtLast();
        toldNobodyTells();
        toldFewestThenLeast();
        ateHours1To8();
        ateSetsByCrusts();
        ateItemsAsTheyAre();
        ateNone();
        count0To9();
        countWithoutAWall();
        countSkyBeforeAny();
        due.end();
    }

    /** The items of a row, as far as they are 0 .. 99, by ways to them and back; sheet 3 is spoilt by it. */
    private static long[] itemsOf(WallPatience x, int sheet, int lane, int n) {
        x.sheet(3, lane, 4);
        long[] items = new long[n];
        for (int i = 0; i < n; i++) {
            x.copy(sheet, i, 3, 2, 1);
            int way = x.round(3, lane, 0, 2, 0);
            items[i] = way < 0 ? way : way / 2;
        }
        x.drop(3);
        return items;
    }

    private static void holds(WallPatience x, int sheet, int lane, long... want) {
        long[] got = itemsOf(x, sheet, lane, want.length);
        due.isTrue("row " + Arrays.toString(got) + " is " + Arrays.toString(want), Arrays.equals(got, want));
    }

    /** "SHEETS 0 .. 3: nothing (at first)", "a LANE: 0 bytes, 1 shorts, 2 ints, 3 longs". */
    private static void sheets0To3() {
        WallPatience x = new WallPatience();
        for (int sheet = 0; sheet < 4; sheet++) {
            due.is("nothing at first", x.drop(sheet), NULL);
            for (int lane = 0; lane < 4; lane++) {
                due.is("sheet(" + sheet + ", " + lane + ", 3)", x.sheet(sheet, lane, 3), 3);
                for (int as = 0; as < 4; as++) {
                    due.is("as lane " + as, x.item(sheet, as, 0, 7), as == lane ? 7 : CAST);
                }
            }
        }
        for (int no : new int[] {-1, 4, 256, 1 << 30, MIN, MAX}) {
            due.is("sheet(" + no + ", 0, 1)", x.sheet(no, 0, 1), BAD);
            due.is("sheet(0, " + no + ", 1)", x.sheet(0, no, 1), BAD);
            due.is("drop(" + no + ")", x.drop(no), BAD);
        }
        due.is("row 0 stays", x.drop(0), 3);
    }

    /** "of 0 to 24 items"; "BAD: also n above 24; SIZE: n below 0". */
    private static void sizes0To24() {
        WallPatience x = new WallPatience();
        for (int n = 0; n <= 24; n++) {
            due.is("sheet(1, 2, " + n + ")", x.sheet(1, 2, n), n);
            due.is("the last item", x.item(1, 2, n - 1, 5), n > 0 ? 5 : INDEX);
            due.is("behind it", x.item(1, 2, n, 5), INDEX);
            for (int no : new int[] {25, 26, 256, 1 << 30, MAX}) {
                due.is("sheet(1, 2, " + no + ")", x.sheet(1, 2, no), BAD);
            }
            for (int no : new int[] {-1, -24, -256, MIN + 1, MIN}) {
                due.is("sheet(1, 2, " + no + ")", x.sheet(1, 2, no), SIZE);
            }
            due.is("had", x.drop(1), n);
        }
    }

    private static void badAheadOfSize() {
        WallPatience x = new WallPatience();
        due.is("sheet 4", x.sheet(4, 0, -1), BAD);
        due.is("sheet -1", x.sheet(-1, 0, MIN), BAD);
        due.is("lane 4", x.sheet(0, 4, -1), BAD);
        due.is("lane -1", x.sheet(0, -1, MIN), BAD);
        due.is("as told but for n", x.sheet(3, 3, -1), SIZE);
        due.is("nothing yet", x.drop(3), NULL);
    }

    /** "a new row of a LANE, of n items 0", in place of a longer and of a shorter one. */
    private static void newRowIsOfItems0() {
        for (int lane = 0; lane < 4; lane++) {
            WallPatience x = new WallPatience();
            x.sheet(0, lane, 24);
            for (int i = 0; i < 24; i++) {
                x.item(0, lane, i, 90 + i % 10);
            }
            due.is("shorter", x.sheet(0, lane, 2), 2);
            holds(x, 0, lane, 0, 0);
            x.item(0, lane, 1, 9);
            due.is("longer", x.sheet(0, lane, 24), 24);
            holds(x, 0, lane, new long[24]);
            x.item(0, lane, 23, 9);
            x.drop(0);
            due.is("behind nothing", x.sheet(0, lane, 24), 24);
            holds(x, 0, lane, new long[24]);
        }
    }

    /** Promise 28: "how many items it had. BAD; NULL." */
    private static void dropNothing() {
        WallPatience x = new WallPatience();
        due.is("nothing", x.drop(2), NULL);
        x.sheet(2, 0, 0);
        due.is("a row of none", x.drop(2), 0);
        due.is("nothing then", x.drop(2), NULL);
        x.sheet(2, 0, 24);
        due.is("a row of 24", x.drop(2), 24);
        due.is("nothing then", x.drop(2), NULL);
        due.is("no item", x.item(2, 0, 0, 0), NULL);
        due.is("no item, no place", x.item(2, 0, -1, 0), NULL);
        due.is("no item, another lane", x.item(2, 3, 0, 0), NULL);
        due.is("no copy of it", x.copy(2, 0, 2, 0, 0), NULL);
    }

    /** Promise 29: "BAD; NULL; CAST; INDEX." */
    private static void itemBounds() {
        WallPatience x = new WallPatience();
        x.sheet(0, 1, 24);
        due.is("item 0", x.item(0, 1, 0, 8), 8);
        due.is("item 23", x.item(0, 1, 23, 9), 9);
        for (int i : new int[] {-1, 24, 25, 256, 1 << 30, MIN, MIN + 1, MAX}) {
            due.is("item " + i, x.item(0, 1, i, 7), INDEX);
            due.is("item " + i + ", another lane", x.item(0, 2, i, 7), CAST);
            due.is("item " + i + " of nothing", x.item(1, 2, i, 7), NULL);
            due.is("item " + i + " of no lane", x.item(1, 4, i, 7), BAD);
        }
        x.sheet(1, 1, 0);
        due.is("item 0 of none", x.item(1, 1, 0, 7), INDEX);
        long[] want = new long[24];
        want[0] = 8;
        want[23] = 9;
        holds(x, 0, 1, want);
    }

    /** "becomes v, its lowest bits: what it is then". */
    private static void lowestBits() {
        long[] greatest = {127, 32767, 2147483647L, Long.MAX_VALUE};
        WallPatience x = new WallPatience();
        for (int lane = 0; lane < 4; lane++) {
            x.sheet(lane, lane, 1);
            long most = greatest[lane];
            long least = -most - 1;
            long[] put = {most, most + 1, least, least - 1, 0, -1, 1};
            long[] want = {most, least, least, most, 0, -1, 1};
            for (int k = 0; k < put.length; k++) {
                due.is("lane " + lane + " item " + put[k], x.item(lane, lane, 0, put[k]), want[k]);
            }
            due.is("lane " + lane + " all bits", x.item(lane, lane, 0, 2 * most + 1), -1);
            due.is("lane " + lane + " the next bit", x.item(lane, lane, 0, 2 * most + 2), 0);
            long[] far = {Long.MAX_VALUE, Long.MIN_VALUE, (1L << 32) + 5};
            long[] cut = {-1, 0, 5};
            for (int k = 0; k < far.length; k++) {
                due.is("lane " + lane + " item " + far[k], x.item(lane, lane, 0, far[k]), lane < 3 ? cut[k] : far[k]);
            }
        }
    }

    private static void itemsStayByThemselves() {
        WallPatience x = new WallPatience();
        x.sheet(0, 0, 3);
        x.sheet(1, 0, 3);
        x.item(0, 0, 1, 5);
        x.item(1, 0, 2, 6);
        holds(x, 0, 0, 0, 5, 0);
        holds(x, 1, 0, 0, 0, 6);
    }

    private static WallPatience twoRows() {
        WallPatience x = new WallPatience();
        x.sheet(0, 2, 6);
        Due.fill(x, 0, 2, 1, 2, 3, 4, 5, 6);
        x.sheet(1, 2, 3);
        Due.fill(x, 1, 2, 7, 8, 9);
        return x;
    }

    /** n 0 is taken wherever a row begins or ends. */
    private static void copyNone() {
        WallPatience x = twoRows();
        for (int i = 0; i <= 6; i++) {
            for (int j = 0; j <= 3; j++) {
                due.is("none from " + i + " to " + j, x.copy(0, i, 1, j, 0), 0);
            }
        }
        holds(x, 0, 2, 1, 2, 3, 4, 5, 6);
        holds(x, 1, 2, 7, 8, 9);
        x.sheet(2, 2, 0);
        due.is("of a row of none to itself", x.copy(2, 0, 2, 0, 0), 0);
        due.is("one of it", x.copy(2, 0, 2, 0, 1), INDEX);
        due.is("behind it", x.copy(2, 1, 2, 0, 0), INDEX);
    }

    private static void copyAll() {
        WallPatience x = twoRows();
        due.is("all of a row to itself", x.copy(0, 0, 0, 0, 6), 6);
        holds(x, 0, 2, 1, 2, 3, 4, 5, 6);
        due.is("the last three", x.copy(0, 3, 1, 0, 3), 3);
        holds(x, 1, 2, 4, 5, 6);
        due.is("to the end", x.copy(1, 0, 0, 3, 3), 3);
        holds(x, 0, 2, 1, 2, 3, 4, 5, 6);
        due.is("to the beginning", x.copy(1, 0, 0, 0, 3), 3);
        holds(x, 0, 2, 4, 5, 6, 4, 5, 6);
    }

    /** "(or the same) .. as if all were taken ahead". */
    private static void copyOverItself() {
        WallPatience x = twoRows();
        due.is("one further", x.copy(0, 0, 0, 1, 5), 5);
        holds(x, 0, 2, 1, 1, 2, 3, 4, 5);
        due.is("one back", x.copy(0, 1, 0, 0, 5), 5);
        holds(x, 0, 2, 1, 2, 3, 4, 5, 5);
        due.is("two further", x.copy(0, 0, 0, 2, 4), 4);
        holds(x, 0, 2, 1, 2, 1, 2, 3, 4);
        due.is("two back", x.copy(0, 2, 0, 0, 4), 4);
        holds(x, 0, 2, 1, 2, 3, 4, 3, 4);
    }

    /** "INDEX (n below 0, too)": one too many on each side, and sums that wrap around. */
    private static void copyBounds() {
        WallPatience x = twoRows();
        int[][] wrong = {{3, 0, 4}, {4, 0, 3}, {0, 1, 3}, {0, 0, 4}, {-1, 0, 1}, {0, -1, 1}, {6, 0, 1}, {0, 3, 1},
            {7, 0, 0}, {0, 4, 0}, {-1, 0, 0}, {0, -1, 0}, {0, 0, -1}, {1, 1, -1}, {6, 3, -1}, {0, 0, MIN}, {0, 0, MAX},
            {1, 0, MAX}, {0, 1, MAX}, {MAX, 0, 1}, {0, MAX, 1}, {MAX, MAX, MAX}, {MIN, 0, 1}, {0, MIN, 1},
            {MIN, MIN, MIN}, {MAX, 0, MIN}, {MIN, 0, MAX}, {1 << 30, 1 << 30, 1 << 30}, {MAX, 0, 0}, {0, MAX, 0}};
        for (int[] a : wrong) {
            due.is("copy(0, " + a[0] + ", 1, " + a[1] + ", " + a[2] + ")", x.copy(0, a[0], 1, a[1], a[2]), INDEX);
        }
        holds(x, 0, 2, 1, 2, 3, 4, 5, 6);
        holds(x, 1, 2, 7, 8, 9);
        x.sheet(2, 1, 3);
        for (int[] a : wrong) {
            due.is("of unlike lanes", x.copy(0, a[0], 2, a[1], a[2]), CAST);
            due.is("of unlike lanes", x.copy(2, a[0], 0, a[1], a[2]), CAST);
            due.is("to nothing", x.copy(0, a[0], 3, a[1], a[2]), NULL);
            due.is("from nothing", x.copy(3, a[0], 0, a[1], a[2]), NULL);
            due.is("to none", x.copy(3, a[0], 4, a[1], a[2]), BAD);
            due.is("from none", x.copy(-1, a[0], 3, a[1], a[2]), BAD);
        }
    }

    /** Items that no row but longs can hold are copied whole: behind it they are no places yet. */
    private static void copyLowestBits() {
        WallPatience x = new WallPatience();
        x.sheet(0, 3, 2);
        x.sheet(1, 3, 4);
        x.item(0, 3, 0, 1L << 32);
        x.item(0, 3, 1, Long.MIN_VALUE);
        due.is("as they are", x.round(1, 3, 0, 2, 0), 0);
        x.copy(0, 0, 1, 0, 1);
        due.is("2^32 is no place", x.round(1, 3, 0, 2, 0), NOT);
        x.copy(0, 1, 1, 0, 1);
        due.is("nor is the least long", x.round(1, 3, 0, 2, 0), NOT);
    }

    /** Promise 31: "behind 1, 2, .. n HOURS (1 .. 24), an item each", in each lane. */
    private static void filmHours1To24() {
        for (int lane = 0; lane < 4; lane++) {
            WallPatience x = Due.with("w24,0;p99,1,0,0;p99,4,0,0;");
            x.sheet(0, lane, 24);
            due.is("one hour", x.film(0, 1, 0, lane, 23), 1);
            long[] want = new long[24];
            want[23] = 1;
            holds(x, 0, lane, want);
            due.is("24 hours", x.film(1, 24, 0, lane, 0), 24);
            for (int i = 0; i < 24; i++) {
                want[i] = 4 * i + 4;
            }
            holds(x, 0, lane, want);
            for (int n : new int[] {0, -1, 25, 256, MIN, MAX}) {
                due.is("film(0, " + n + ")", x.film(0, n, 0, lane, 0), BAD);
            }
            due.is("no act", x.count(8), 0);
        }
    }

    /** "BAD; NULL; CAST; INDEX." */
    private static void filmBounds() {
        WallPatience x = Due.with("w24,0;p99,1,0,0;");
        x.sheet(0, 2, 5);
        x.sheet(2, 2, 0);
        for (int i = 0; i <= 5; i++) {
            due.is("as many as there are from " + i, x.film(0, Math.max(1, 5 - i), 0, 2, i), i < 5 ? 5 - i : INDEX);
            due.is("one too many from " + i, x.film(0, 6 - i, 0, 2, i), INDEX);
        }
        for (int i : new int[] {-1, 6, 256, 1 << 30, MIN, MAX, MAX - 1}) {
            due.is("from " + i, x.film(0, 1, 0, 2, i), INDEX);
            due.is("24 from " + i, x.film(0, 24, 0, 2, i), INDEX);
            due.is("another lane from " + i, x.film(0, 1, 0, 3, i), CAST);
            due.is("nothing from " + i, x.film(0, 1, 1, 3, i), NULL);
            due.is("no lane from " + i, x.film(0, 1, 1, 4, i), BAD);
            due.is("no one from " + i, x.film(1, 1, 1, 3, i), BAD);
        }
        due.is("a row of none", x.film(0, 1, 2, 2, 0), INDEX);
        holds(x, 0, 2, 1, 1, 1, 1, 1);
        Due.fill(x, 0, 2, 9, 9, 9, 9, 9);
        due.is("in the middle", x.film(0, 3, 0, 2, 1), 3);
        holds(x, 0, 2, 9, 1, 2, 3, 9);
    }

    /** "its lowest bits": strain 127 is a byte; 128 is -128 then, which is no place, and no strain that could be. */
    private static void filmLowestBits() {
        // seed 9 has no wind in four hours: 9 + 16 by day, 9 + 9 + 16 by night
        WallPatience x = Due.with("w1,0;m98,9,9,8;");
        x.seed(9);
        x.news(0, 2);
        filmed(x, new int[] {25, 59, 93, 127}, true);
        // draw 1 has wind, wind, rain, rain, wind: 22 by day, 31 by night with wind, 22 without
        filmed(Due.with("w1,0;p99,9,9,9;"), new int[] {22, 53, 75, 97, 128}, false);
        // 75, and 27 more by bad news: he is down then
        WallPatience y = Due.with("w1,0;p99,9,9,9;");
        y.hours(3);
        y.news(0, 2);
        filmed(y, new int[] {102, 102}, true);
        // 26 and 35, then 36 each by bad news
        WallPatience z = Due.with("w1,0;m99,9,9,9;");
        z.hours(2);
        z.news(0, 2);
        filmed(z, new int[] {97, 133, 133}, false);
    }

    private static void filmed(WallPatience x, int[] strains, boolean areBytes) {
        int n = strains.length;
        for (int k = 0; k < n; k++) {
            due.is("strain(0, " + (k + 1) + ")", x.strain(0, k + 1), strains[k]);
        }
        for (int lane = 0; lane < 4; lane++) {
            boolean whole = areBytes || lane > 0;
            x.sheet(lane, lane, n);
            due.is("film", x.film(0, n, lane, lane, 0), n);
            due.is("it is so by lane " + lane, x.ate(0, lane, lane, 0, n, 1), whole ? 0 : NONE);
            for (int k = 0; k < n; k++) {
                x.item(lane, lane, k, strains[k]);
            }
            due.is("by items, lane " + lane, x.ate(0, lane, lane, 0, n, 1), whole ? 0 : NONE);
        }
    }

    /** STRAIN of who is down stays, so all items are like. */
    private static void filmOfWhoIsDown() {
        WallPatience x = Due.with("w24,0;p10,9,0,2;");
        x.hours(1);
        x.sheet(0, 1, 4);
        due.is("film", x.film(0, 4, 0, 1, 0), 4);
        holds(x, 0, 1, 10, 10, 10, 10);
    }

    /** Promise 32: "n (2 .. 7) WALLS by 2 n items". */
    private static void roundWalls2To7() {
        WallPatience x = new WallPatience();
        x.sheet(0, 0, 14);
        for (int k = 2; k < 14; k++) {
            x.item(0, 0, k, 99);
        }
        for (int n = 2; n <= 7; n++) {
            due.is("to the far corner and back, n " + n, x.round(0, 0, 0, n, 0), 396);
            due.is("first, n " + n, x.round(0, 0, 0, n, 1), 1);
            due.is("the last place, n " + n, x.round(0, 0, 14 - 2 * n, n, 0), n == 7 ? 396 : 0);
            due.is("one behind it, n " + n, x.round(0, 0, 15 - 2 * n, n, 0), INDEX);
        }
        for (int n : new int[] {1, 0, -1, 8, 256, 1 << 30, MIN, MAX}) {
            due.is("n " + n, x.round(0, 0, 0, n, 0), BAD);
        }
        for (int what : new int[] {-1, 2, 256, MIN, MAX}) {
            due.is("what " + what, x.round(0, 0, 0, 2, what), BAD);
        }
        for (int i : new int[] {-1, 15, 256, 1 << 30, MIN, MAX}) {
            due.is("i " + i, x.round(0, 0, i, 2, 0), INDEX);
        }
    }

    /** "told by two items each (a column, a row, 0 .. 99)"; "NOT: an item is not as told", of these alone. */
    private static void roundItems0To99() {
        for (int lane = 0; lane < 4; lane++) {
            WallPatience x = new WallPatience();
            x.sheet(0, lane, 16);
            long[] wrong = {100, -1, 127, -128, 1L << 32, Long.MIN_VALUE, 256};
            for (int k = 1; k < 15; k++) {
                for (long v : new long[] {0, 99}) {
                    x.item(0, lane, k, v);
                    due.is("item " + k + " is " + v, x.round(0, lane, 1, 7, 0), v == 0 ? 0 : 198);
                }
                x.item(0, lane, k, wrong[k % 2]);
                due.is("item " + k + " is " + wrong[k % 2], x.round(0, lane, 1, 7, 0), NOT);
                x.item(0, lane, k, 0);
            }
            for (long v : wrong) {
                x.item(0, lane, 0, v);
                x.item(0, lane, 15, v);
                due.is("outside of these", x.round(0, lane, 1, 7, 0), 0);
                boolean is0 = x.item(0, lane, 0, v) == 0;
                due.is("among these", x.round(0, lane, 0, 2, 0), is0 ? 0 : NOT);
                due.is("among these, but behind the end", x.round(0, lane, 14, 2, 0), INDEX);
            }
        }
    }

    /** "which comes first on it, the least that can". */
    private static void roundFirstIsTheLeastThatCan() {
        WallPatience x = new WallPatience();
        x.sheet(0, 2, 14);
        due.is("all in one place", x.round(0, 2, 0, 7, 0), 0);
        due.is("all in one place, first", x.round(0, 2, 0, 7, 1), 1);
        // around a square from a corner: 5 or 6 comes first, any other first one makes a way longer
        Due.fill(x, 0, 2, 0, 0, 99, 0, 99, 50, 99, 99, 50, 99, 50, 0, 0, 99);
        due.is("around", x.round(0, 2, 0, 7, 0), 396);
        due.is("5 comes first", x.round(0, 2, 0, 7, 1), 5);
        // on a line: the first one can be the farthest, as all others can come on the way back
        Due.fill(x, 0, 2, 0, 0, 9, 0, 3, 0, 1, 0);
        due.is("on a line", x.round(0, 2, 0, 4, 0), 18);
        due.is("the farthest", x.round(0, 2, 0, 4, 1), 1);
        Due.fill(x, 0, 2, 5, 0, 9, 0, 3, 0, 7, 0, 0, 0);
        due.is("both ways on a line", x.round(0, 2, 0, 5, 0), 18);
        due.is("both ways, first", x.round(0, 2, 0, 5, 1), 1);
    }

    /** Promises 33 and 34: "n (0 .. 12) pairs". */
    private static void pairs0To12() {
        WallPatience x = new WallPatience();
        x.sheet(0, 1, 24);
        for (int n = 0; n <= 12; n++) {
            due.is("goesOn n " + n, x.goesOn(0, 1, 0, n, 255), 255);
            due.is("told n " + n, x.told(0, 1, 0, n, 0), 8);
            due.is("the last place, n " + n, x.goesOn(0, 1, 24 - 2 * n, n, 4), 4);
            due.is("one behind it, n " + n, x.goesOn(0, 1, 25 - 2 * n, n, 4), INDEX);
            due.is("the last place, told n " + n, x.told(0, 1, 24 - 2 * n, n, 1), 255);
            due.is("one behind it, told n " + n, x.told(0, 1, 25 - 2 * n, n, 1), INDEX);
        }
        for (int n : new int[] {-1, 13, 256, 1 << 30, MIN, MAX}) {
            due.is("goesOn n " + n, x.goesOn(0, 1, 0, n, 1), BAD);
            due.is("told n " + n, x.told(0, 1, 0, n, 0), BAD);
        }
        for (int i : new int[] {-1, 25, 256, 1 << 30, MIN, MAX}) {
            for (int n : new int[] {0, 1, 12}) {
                due.is("goesOn i " + i, x.goesOn(0, 1, i, n, 1), INDEX);
                due.is("told i " + i, x.told(0, 1, i, n, 0), INDEX);
            }
        }
        x.sheet(1, 1, 0);
        due.is("no pairs of a row of none", x.goesOn(1, 1, 0, 0, 9), 9);
        due.is("no pairs of a row of none, told", x.told(1, 1, 0, 0, 0), 8);
        due.is("a pair of a row of none", x.goesOn(1, 1, 0, 1, 9), INDEX);
    }

    /** "PEOPLE 0 .. 7": "NOT" in each place of a pair; those outside are not asked. */
    private static void people0To7() {
        for (int lane = 0; lane < 4; lane++) {
            WallPatience x = new WallPatience();
            x.sheet(0, lane, 24);
            for (int k = 0; k < 24; k++) {
                x.item(0, lane, k, 7);
                due.is("7 at " + k, x.goesOn(0, lane, 0, 12, k % 2 == 0 ? 128 : 1), 129);
                long wrong = k % 3 == 0 ? 8 : k % 3 == 1 ? -1 : 127;
                x.item(0, lane, k, wrong);
                due.is(wrong + " at " + k, x.goesOn(0, lane, 0, 12, 1), NOT);
                due.is(wrong + " at " + k + ", told", x.told(0, lane, 0, 12, 0), NOT);
                due.is("not among these", x.goesOn(0, lane, 0, k / 2, 1), 1);
                due.is("not among these, told", x.told(0, lane, k / 2 * 2 + 2, 11 - k / 2, 0), 8);
                x.item(0, lane, k, 0);
            }
        }
        WallPatience y = new WallPatience();
        y.sheet(0, 3, 2);
        for (long v : new long[] {1L << 32, (1L << 32) + 1, Long.MIN_VALUE, Long.MAX_VALUE, 1L << 63 | 7, 256}) {
            y.item(0, 3, 0, v);
            due.is("a long of whose bits some are people", y.goesOn(0, 3, 0, 1, 1), NOT);
            due.is("the same, told", y.told(0, 3, 0, 1, 1), NOT);
            due.is("behind the end", y.told(0, 3, 1, 1, 1), INDEX);
        }
    }

    /** "if a set (0 .. 255) does". */
    private static void setsOf0To255() {
        WallPatience x = new WallPatience();
        x.sheet(0, 0, 2);
        x.item(0, 0, 1, 7);
        for (int set = 0; set <= 255; set++) {
            due.is("set " + set, x.goesOn(0, 0, 0, 1, set), (set & 1) == 1 ? set | 128 : set);
        }
        for (int set : new int[] {-1, 256, 257, 512, 1 << 30, MIN, MAX}) {
            due.is("set " + set, x.goesOn(0, 0, 0, 1, set), BAD);
        }
        for (int what : new int[] {-1, 2, 256, MIN, MAX}) {
            due.is("what " + what, x.told(0, 0, 0, 1, what), BAD);
        }
    }

    /** "who knows at last": the longest chain, in the order that is the slowest and in the quickest; a ring. */
    private static void goesOnAtLast() {
        WallPatience x = new WallPatience();
        x.sheet(0, 0, 24);
        Due.fill(x, 0, 0, 6, 7, 5, 6, 4, 5, 3, 4, 2, 3, 1, 2, 0, 1);
        due.is("slowest", x.goesOn(0, 0, 0, 7, 1), 255);
        Due.fill(x, 0, 0, 0, 1, 1, 2, 2, 3, 3, 4, 4, 5, 5, 6, 6, 7, 7, 0);
        due.is("quickest", x.goesOn(0, 0, 0, 7, 1), 255);
        due.is("from the last one", x.goesOn(0, 0, 0, 7, 128), 128);
        due.is("a ring", x.goesOn(0, 0, 0, 8, 128), 255);
        due.is("nobody", x.goesOn(0, 0, 0, 8, 0), 0);
        // to oneself, and the same once more
        Due.fill(x, 0, 0, 3, 3, 3, 3, 3, 4, 3, 4);
        due.is("to himself", x.goesOn(0, 0, 0, 2, 8), 8);
        due.is("told twice", x.goesOn(0, 0, 0, 4, 8), 24);
        due.is("not back", x.goesOn(0, 0, 0, 4, 16), 16);
    }

    /** Without pairs, or if all tell themselves, all have to be told. */
    private static void toldNobodyTells() {
        WallPatience x = new WallPatience();
        x.sheet(0, 0, 16);
        due.is("how many", x.told(0, 0, 0, 0, 0), 8);
        due.is("all", x.told(0, 0, 0, 0, 1), 255);
        Due.fill(x, 0, 0, 0, 0, 1, 1, 2, 2, 3, 3, 4, 4, 5, 5, 6, 6, 7, 7);
        due.is("how many", x.told(0, 0, 0, 8, 0), 8);
        due.is("all", x.told(0, 0, 0, 8, 1), 255);
    }

    private static void tells(int many, int set, long... pairs) {
        WallPatience x = new WallPatience();
        x.sheet(0, 2, 24);
        Due.fill(x, 0, 2, pairs);
        due.is(Arrays.toString(pairs) + " how many", x.told(0, 2, 0, pairs.length / 2, 0), many);
        due.is(Arrays.toString(pairs) + " which", x.told(0, 2, 0, pairs.length / 2, 1), set);
    }

    /** "the one of fewest, of like ones the least". */
    private static void toldFewestThenLeast() {
        tells(1, 1, 0, 1, 1, 2, 2, 3, 3, 4, 4, 5, 5, 6, 6, 7, 7, 0);
        tells(1, 128, 7, 6, 6, 5, 5, 4, 4, 3, 3, 2, 2, 1, 1, 0);
        tells(1, 128, 7, 0, 7, 1, 7, 2, 7, 3, 7, 4, 7, 5, 7, 6);
        // two rings of four
        tells(2, 17, 0, 1, 1, 2, 2, 3, 3, 0, 4, 5, 5, 6, 6, 7, 7, 4);
        // two rings of four, the other way around in number: the least of each is 0 and 1
        tells(2, 3, 0, 2, 2, 4, 4, 6, 6, 0, 1, 3, 3, 5, 5, 7, 7, 1);
        // one who is far up but alone is greater than two who are low: fewest comes first
        tells(1, 128, 7, 0, 0, 1, 1, 2, 2, 3, 3, 4, 4, 5, 5, 6, 0, 2, 1, 3, 2, 4, 3, 5, 4, 6);
        tells(7, 127, 6, 7);
        tells(7, 254, 7, 0);
        tells(7, 127, 0, 7);
        tells(7, 127, 0, 7, 7, 0);
    }

    private static WallPatience withRow(String wall, int lane, long... items) {
        WallPatience x = Due.with(wall);
        x.sheet(0, lane, items.length);
        Due.fill(x, 0, lane, items);
        return x;
    }

    /** Promise 35: "n (1 .. 8) items", "BAD; NULL; CAST; INDEX; NOT: he is DOWN". */
    private static void ateHours1To8() {
        WallPatience x = withRow("w24,1;p99,5,0,0;p10,9,0,2;", 2, 5, 10, 15, 20, 25, 30, 35, 40);
        for (int n = 1; n <= 8; n++) {
            due.is("n " + n, x.ate(0, 0, 2, 0, n, 0), 2);
            due.is("n " + n + ", which", x.ate(0, 0, 2, 0, n, 1), 0);
            due.is("the last place, n " + n, x.ate(0, 0, 2, 8 - n, n, 0), n == 8 ? 2 : 0);
            due.is("one behind it, n " + n, x.ate(0, 0, 2, 9 - n, n, 0), INDEX);
        }
        for (int n : new int[] {0, -1, 9, 256, MIN, MAX}) {
            due.is("n " + n, x.ate(0, 0, 2, 0, n, 0), BAD);
        }
        for (int what : new int[] {-1, 2, 256, MIN, MAX}) {
            due.is("what " + what, x.ate(0, 0, 2, 0, 1, what), BAD);
        }
        x.hours(1);
        due.is("down", x.ate(1, 0, 2, 0, 8, 0), NOT);
        due.is("down", x.ate(1, 0, 2, 0, 1, 1), NOT);
        due.is("down, behind the end", x.ate(1, 0, 2, 1, 8, 1), INDEX);
        due.is("down, another lane, behind the end", x.ate(1, 0, 3, 1, 8, 1), CAST);
        due.is("down, nothing", x.ate(1, 1, 3, 1, 8, 1), NULL);
        due.is("down, nothing, n 9", x.ate(1, 1, 3, 1, 9, 1), BAD);
        due.is("down, nothing, what 2", x.ate(1, 1, 3, 1, 8, 2), BAD);
    }

    /** "sets of these HOURS (as for EAT)": of no more hours than he has crusts; all of them, if strain is always 0. */
    private static void ateSetsByCrusts() {
        int[] sets = {1, 9, 37, 93, 163, 219, 247, 255, 256, 256};
        for (int crusts = 0; crusts <= 9; crusts++) {
            WallPatience x = withRow("w24," + crusts + ";p99,0,0,0;", 0, 0, 0, 0, 0, 0, 0, 0, 0);
            due.is(crusts + " crusts", x.ate(0, 0, 0, 0, 8, 0), sets[crusts]);
            due.is(crusts + " crusts, the least", x.ate(0, 0, 0, 0, 8, 1), 0);
            due.is(crusts + " crusts, one hour", x.ate(0, 0, 0, 0, 1, 0), crusts == 0 ? 1 : 2);
        }
        // he had to eat ahead of each hour: 6 each hour, and 6 now
        for (int crusts = 7; crusts <= 9; crusts++) {
            WallPatience x = withRow("w24," + crusts + ";p99,6,0,0;", 0, 6, 6, 6, 6, 6, 6, 6, 6);
            x.hours(1);
            due.is(crusts + " crusts", x.ate(0, 0, 0, 0, 8, 0), crusts < 8 ? 0 : 1);
            due.is(crusts + " crusts, all hours", x.ate(0, 0, 0, 0, 8, 1), crusts < 8 ? NONE : 255);
            due.is(crusts + " crusts, 7 hours", x.ate(0, 0, 0, 0, 7, 1), 127);
        }
    }

    /** A row of longs tells no strain by its lowest bits. */
    private static void ateItemsAsTheyAre() {
        for (long v : new long[] {(1L << 32) + 5, (1L << 63) + 5, 5 - (1L << 32), 256 + 5, -5}) {
            WallPatience x = withRow("w24,1;p99,5,0,0;", 3, v);
            due.is("item " + v, x.ate(0, 0, 3, 0, 1, 0), 0);
            due.is("item " + v + ", which", x.ate(0, 0, 3, 0, 1, 1), NONE);
        }
        due.is("item 5", withRow("w24,1;p99,5,0,0;", 3, 5).ate(0, 0, 3, 0, 1, 0), 2);
    }

    /** "how many sets (what 0), the least (1; NONE)". */
    private static void ateNone() {
        WallPatience x = withRow("w24,9;p99,5,0,0;", 1, 4, 6, -1, 32767, -32768);
        for (int i = 0; i < 5; i++) {
            due.is("no strain " + i, x.ate(0, 0, 1, i, 1, 0), 0);
            due.is("none " + i, x.ate(0, 0, 1, i, 1, 1), NONE);
        }
        // the first hours are so, the last one is not
        WallPatience y = withRow("w24,9;p99,5,0,0;", 1, 5, 10, 15, 20, 25, 30, 35, 41);
        due.is("seven", y.ate(0, 0, 1, 0, 7, 0), 2);
        due.is("eight", y.ate(0, 0, 1, 0, 8, 0), 0);
        due.is("eight, which", y.ate(0, 0, 1, 0, 8, 1), NONE);
        // he is down by line 10 then, and stays: hours behind it are in the set or not
        WallPatience z = withRow("w24,1;p10,5,0,0;", 1, 5, 10, 10);
        due.is("down in the second hour", z.ate(0, 0, 1, 0, 3, 0), 3);
        due.is("one crust ahead of the second", withRow("w24,1;p10,5,0,0;", 1, 5, 5, 10).ate(0, 0, 1, 0, 3, 1), 2);
    }

    /** Promise 36: what 0 .. 9. */
    private static void count0To9() {
        WallPatience x = Due.with("w1,9;" + "p10,5,0,0;".repeat(6));
        int[] first = {6, 6, 0, 1, 9, 54, 0, 0, 0, 0};
        for (int what = 0; what <= 9; what++) {
            due.is("count(" + what + ")", x.count(what), first[what]);
        }
        x.hours(2);
        x.feed(0);
        int[] then = {6, 0, 2, 1, 9, 54, 1, 1, 2, 1};
        for (int what = 0; what <= 9; what++) {
            due.is("count(" + what + ") then", x.count(what), then[what]);
        }
        for (int what : new int[] {-1, 10, 256, 1 << 30, MIN, MAX}) {
            due.is("count(" + what + ")", x.count(what), BAD);
        }
    }

    /** "(0 .. 5, 7: 0 without a WALL)"; the tape is there without one. */
    private static void countWithoutAWall() {
        WallPatience x = new WallPatience();
        x.feed('w');
        x.feed('1');
        for (int what = 0; what <= 9; what++) {
            due.is("count(" + what + ")", x.count(what), what == 9 ? 2 : 0);
        }
        due.is("a fault", x.wall(), -102);
        for (int what = 0; what <= 9; what++) {
            due.is("count(" + what + ") then", x.count(what), 0);
        }
    }

    /** "SKY of the latest HOUR of this WALL (0 before any)": seed 2 has RAIN. */
    private static void countSkyBeforeAny() {
        WallPatience x = Due.with("w24,0;p99,0,0,0;");
        x.seed(2);
        due.is("before any", x.count(6), 0);
        x.hours(1);
        due.is("rain", x.count(6), 2);
        x.image(0);
        x.undo();
        due.is("undone: before any", x.count(6), 0);
        x.hours(1);
        due.is("rain", x.count(6), 2);
        Due.feed(x, "w24,0;p99,0,0,0;");
        x.wall();
        due.is("a new wall: before any", x.count(6), 0);
        x.restore(0);
        due.is("as it was kept", x.count(6), 2);
    }
}
