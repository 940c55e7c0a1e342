/** Promises 27 to 36: sheets, and what is told by them. */
public final class SheetsTest {
    private static final int BAD = WallPatience.BAD, NOT = WallPatience.NOT, NONE = WallPatience.NONE;
    private static final int NULL = WallPatience.NULL, CAST = WallPatience.CAST;
    private static final int INDEX = WallPatience.INDEX, SIZE = WallPatience.SIZE;
    private static final int MIN = Integer.MIN_VALUE, MAX = Integer.MAX_VALUE;
    private static final Due due = new Due();

    public static void main(String[] args) {
        sheet();
        drop();
        item();
        copy();
        film();
        round();
        goesOn();
        told();
        ate();
        ateBehindDown();
        count();
        due.end();
    }

    private static void sheet() {
        WallPatience x = new WallPatience();
        for (int k = 0; k < 4; k++) {
            due.is("sheet", x.sheet(k, k, 6 * k), 6 * k);
        }
        due.is("24", x.sheet(0, 0, 24), 24);
        due.is("25", x.sheet(0, 0, 25), BAD);
        due.is("-1", x.sheet(0, 0, -1), SIZE);
        due.is("lane 4", x.sheet(0, 4, -1), BAD);
        due.is("lane -1", x.sheet(0, -1, 1), BAD);
        due.is("sheet 4", x.sheet(4, 0, -1), BAD);
        due.is("sheet -1", x.sheet(-1, 0, 1), BAD);
        due.is("refused: the row stays", x.item(0, 0, 23, 7), 7);
        due.is("a new row", x.sheet(0, 0, 24), 24);
        x.sheet(1, 0, 1);
        x.copy(0, 23, 1, 0, 1);
        due.is("of items 0", x.goesOn(1, 0, 0, 0, 3), 3);
        x.sheet(0, 2, 24);
        due.is("items are 0", x.told(0, 2, 0, 12, 1), 255);
        due.is("another lane", x.item(0, 0, 0, 1), CAST);
    }

    private static void drop() {
        WallPatience x = new WallPatience();
        due.is("nothing", x.drop(0), NULL);
        due.is("drop(-1)", x.drop(-1), BAD);
        due.is("drop(4)", x.drop(4), BAD);
        x.sheet(3, 1, 9);
        due.is("drop(3)", x.drop(3), 9);
        due.is("nothing then", x.drop(3), NULL);
        due.is("no item", x.item(3, 1, 0, 0), NULL);
        x.sheet(3, 1, 0);
        due.is("a row of none", x.drop(3), 0);
    }

    private static void item() {
        WallPatience x = new WallPatience();
        long[][] want = {{44, -1, -128, 0, 127}, {300, -1, 128, 0, 32767}, {300, -1, 128, 0, MAX},
            {300, -1, 128, 1L << 32, Long.MAX_VALUE}};
        long[] put = {300, -1, 128, 1L << 32, Long.MAX_VALUE};
        for (int lane = 0; lane < 4; lane++) {
            x.sheet(lane, lane, 2);
            for (int k = 0; k < 4; k++) {
                due.is("item of lane " + lane, x.item(lane, lane, k % 2, put[k]), want[lane][k]);
            }
            due.is("largest of lane " + lane, x.item(lane, lane, 0, want[lane][4]), want[lane][4]);
            due.is("one above it", x.item(lane, lane, 0, want[lane][4] + 1), -want[lane][4] - 1);
            due.is("lane of another", x.item(lane, (lane + 1) % 4, 9, 0), CAST);
            due.is("item 2", x.item(lane, lane, 2, 0), INDEX);
            due.is("item -1", x.item(lane, lane, -1, 0), INDEX);
            due.is("item MAX", x.item(lane, lane, MAX, 0), INDEX);
            due.is("item MIN", x.item(lane, lane, MIN, 0), INDEX);
        }
        due.is("sheet 4", x.item(4, 0, 0, 0), BAD);
        due.is("sheet -1", x.item(-1, 0, 0, 0), BAD);
        due.is("lane 4", x.item(0, 4, 0, 0), BAD);
        due.is("lane -1", x.item(0, -1, 0, 0), BAD);
        x.drop(0);
        due.is("nothing, lane 4", x.item(0, 4, 0, 0), BAD);
        due.is("nothing", x.item(0, 1, 9, 0), NULL);
    }

    /** Who knows from a set of one, by one pair, tells both items. */
    private static void holdsPair(WallPatience x, int sheet, int lane, int i, int who, int whom) {
        due.is("who tells", x.goesOn(sheet, lane, i, 1, 1 << who), 1 << who | 1 << whom);
        int another = (who + 1) % 8;
        due.is("who doesn't", x.goesOn(sheet, lane, i, 1, 1 << another), 1 << another);
    }

    private static void copy() {
        WallPatience x = new WallPatience();
        x.sheet(0, 2, 6);
        Due.fill(x, 0, 2, 0, 1, 2, 3, 4, 5);
        due.is("forward over itself", x.copy(0, 0, 0, 1, 5), 5);
        holdsPair(x, 0, 2, 0, 0, 0);
        holdsPair(x, 0, 2, 2, 1, 2);
        holdsPair(x, 0, 2, 4, 3, 4);
        due.is("backward over itself", x.copy(0, 2, 0, 0, 4), 4);
        holdsPair(x, 0, 2, 0, 1, 2);
        holdsPair(x, 0, 2, 2, 3, 4);
        holdsPair(x, 0, 2, 4, 3, 4);
        x.sheet(1, 2, 3);
        due.is("to another", x.copy(0, 1, 1, 1, 2), 2);
        holdsPair(x, 1, 2, 1, 2, 3);
        holdsPair(x, 1, 2, 0, 0, 2);
        due.is("none", x.copy(0, 6, 1, 3, 0), 0);
        due.is("i 7", x.copy(0, 7, 1, 3, 0), INDEX);
        due.is("j 4", x.copy(0, 6, 1, 4, 0), INDEX);
        due.is("i -1", x.copy(0, -1, 1, 0, 1), INDEX);
        due.is("j -1", x.copy(0, 0, 1, -1, 1), INDEX);
        due.is("n -1", x.copy(0, 1, 1, 1, -1), INDEX);
        due.is("n MIN", x.copy(0, 0, 1, 0, MIN), INDEX);
        due.is("n MAX", x.copy(0, 1, 1, 1, MAX), INDEX);
        due.is("i MAX", x.copy(0, MAX, 1, 0, MAX), INDEX);
        due.is("too many of from", x.copy(0, 4, 1, 0, 3), INDEX);
        due.is("too many of to", x.copy(0, 0, 1, 1, 3), INDEX);
        x.sheet(2, 1, 3);
        due.is("unlike", x.copy(0, 0, 2, 0, 99), CAST);
        due.is("from nothing", x.copy(3, 0, 0, 0, 1), NULL);
        due.is("to nothing", x.copy(0, 0, 3, 0, -1), NULL);
        due.is("from -1", x.copy(-1, 0, 3, 0, 1), BAD);
        due.is("from 4", x.copy(4, 0, 3, 0, 1), BAD);
        due.is("to -1", x.copy(3, 0, -1, 0, 1), BAD);
        due.is("to 4", x.copy(3, 0, 4, 0, 1), BAD);
    }

    private static void film() {
        // skies WIND WIND RAIN RAIN WIND: strains 9 18 18 18 27
        WallPatience x = Due.with("w24,0;p99,0,9,0;p10,5,0,0;p99,9,9,9;");
        x.sheet(0, 2, 7);
        Due.fill(x, 0, 2, 1, 1, 1, 1, 1, 1, 1);
        due.is("film", x.film(0, 5, 0, 2, 1), 5);
        int[] want = {1, 9, 18, 18, 18, 27, 1};
        // an item is seen by the length of a way from (0, 0) to it and back
        x.sheet(1, 2, 4);
        for (int k = 0; k < 7; k++) {
            x.copy(0, k, 1, 2, 1);
            due.is("item " + k, x.round(1, 2, 0, 2, 0), 2 * want[k]);
        }
        due.is("who gets down", x.film(1, 7, 0, 2, 0), 7);
        x.copy(0, 6, 1, 2, 1);
        due.is("stays", x.round(1, 2, 0, 2, 0), 20);
        x.sheet(2, 2, 24);
        due.is("24 hours", x.film(0, 24, 2, 2, 0), 24);
        due.is("25 hours", x.film(0, 25, 2, 2, 0), BAD);
        due.is("0 hours", x.film(0, 0, 2, 2, 0), BAD);
        due.is("no such one", x.film(3, 1, 2, 2, 0), BAD);
        due.is("no such sheet", x.film(0, 1, 4, 2, 0), BAD);
        due.is("no such lane", x.film(0, 1, 3, 4, 0), BAD);
        due.is("nothing", x.film(0, 1, 3, 2, 0), NULL);
        due.is("another lane", x.film(0, 1, 2, 3, 99), CAST);
        due.is("too many", x.film(0, 2, 2, 2, 23), INDEX);
        due.is("i -1", x.film(0, 2, 2, 2, -1), INDEX);
        due.is("i MAX", x.film(0, 2, 2, 2, MAX), INDEX);
        due.is("the last", x.film(0, 2, 2, 2, 22), 2);
        due.is("no act", x.count(8), 0);
        due.is("hour", x.count(2), 0);
        x.hours(2);
        due.is("of who is down", x.film(1, 2, 2, 2, 0), 2);
        x.copy(2, 0, 1, 2, 1);
        due.is("his strain", x.round(1, 2, 0, 2, 0), 20);
        filmOfBytes();
    }

    /** Strain 128 in a byte is -128, which tells no strain. */
    private static void filmOfBytes() {
        WallPatience x = Due.with("w1,0;p99,9,9,9;");
        due.is("strain behind 4 hours", x.strain(0, 4), 97);
        due.is("strain behind 5 hours", x.strain(0, 5), 128);
        x.sheet(0, 0, 5);
        x.sheet(1, 1, 5);
        x.film(0, 5, 0, 0, 0);
        x.film(0, 5, 1, 1, 0);
        due.is("by shorts", x.ate(0, 1, 1, 0, 5, 0), 1);
        due.is("by bytes", x.ate(0, 0, 0, 0, 5, 0), 0);
        due.is("by bytes, 4 hours", x.ate(0, 0, 0, 0, 4, 0), 1);
        x.sheet(3, 0, 4);
        x.copy(0, 4, 3, 2, 1);
        due.is("a byte below 0", x.round(3, 0, 0, 2, 0), NOT);
    }

    private static void round() {
        WallPatience x = new WallPatience();
        x.sheet(0, 1, 15);
        // (0,0) (9,9) (0,9) (9,0): a square
        Due.fill(x, 0, 1, 99, 0, 0, 9, 9, 0, 9, 9, 0);
        due.is("a square", x.round(0, 1, 1, 4, 0), 36);
        due.is("a square, first", x.round(0, 1, 1, 4, 1), 2);
        due.is("three of it", x.round(0, 1, 1, 3, 0), 36);
        due.is("any first", x.round(0, 1, 1, 3, 1), 1);
        due.is("two of it", x.round(0, 1, 1, 2, 0), 36);
        due.is("first of two", x.round(0, 1, 1, 2, 1), 1);
        // four corners (297 from the first to the last) by way of the middle (98 and 99); the last one lies where
        // the first one lies and can come first too, but 1 can as well
        Due.fill(x, 0, 1, 50, 50, 70, 50, 99, 99, 0, 0, 0, 99, 99, 0, 50, 50);
        due.is("seven", x.round(0, 1, 0, 7, 0), 494);
        due.is("seven, first", x.round(0, 1, 0, 7, 1), 1);
        due.is("from 1 on", x.round(0, 1, 1, 7, 1), 1);
        due.is("from 2 on", x.round(0, 1, 2, 7, 1), INDEX);
        due.is("i -1", x.round(0, 1, -1, 2, 1), INDEX);
        due.is("i MAX", x.round(0, 1, MAX, 2, 1), INDEX);
        due.is("n 1", x.round(0, 1, 0, 1, 1), BAD);
        due.is("n 8", x.round(0, 1, 0, 8, 1), BAD);
        due.is("what 2", x.round(0, 1, 0, 2, 2), BAD);
        due.is("what -1", x.round(0, 1, 0, 2, -1), BAD);
        due.is("sheet 4", x.round(4, 1, 0, 2, 0), BAD);
        due.is("lane 4", x.round(0, 4, 0, 2, 0), BAD);
        due.is("nothing", x.round(1, 1, 0, 2, 0), NULL);
        due.is("another lane", x.round(0, 0, 99, 2, 0), CAST);
        x.item(0, 1, 5, 100);
        due.is("100", x.round(0, 1, 0, 3, 0), NOT);
        due.is("100 is not among these", x.round(0, 1, 0, 2, 0), 40);
        x.item(0, 1, 5, -1);
        due.is("-1", x.round(0, 1, 2, 2, 0), NOT);
        x.sheet(2, 3, 4);
        x.item(2, 3, 0, 1L << 32);
        due.is("a long that is not as told", x.round(2, 3, 0, 2, 0), NOT);
    }

    private static void goesOn() {
        WallPatience x = new WallPatience();
        x.sheet(0, 0, 24);
        // told in the order in which news goes the slowest: 6>7 5>6 .. 0>1
        Due.fill(x, 0, 0, 6, 7, 5, 6, 4, 5, 3, 4, 2, 3, 1, 2, 0, 1);
        for (int who = 0; who < 8; who++) {
            due.is("from " + who, x.goesOn(0, 0, 0, 7, 1 << who), 255 & -(1 << who));
        }
        due.is("nobody", x.goesOn(0, 0, 0, 7, 0), 0);
        due.is("no pairs", x.goesOn(0, 0, 0, 0, 129), 129);
        due.is("no pairs at the end", x.goesOn(0, 0, 24, 0, 129), 129);
        due.is("no pairs behind it", x.goesOn(0, 0, 25, 0, 129), INDEX);
        due.is("12 pairs", x.goesOn(0, 0, 0, 12, 128), 128);
        due.is("13 pairs", x.goesOn(0, 0, 0, 13, 128), BAD);
        due.is("-1 pairs", x.goesOn(0, 0, 0, -1, 128), BAD);
        due.is("set 256", x.goesOn(0, 0, 0, 1, 256), BAD);
        due.is("set -1", x.goesOn(0, 0, 0, 1, -1), BAD);
        due.is("sheet 4", x.goesOn(4, 0, 0, 1, 1), BAD);
        due.is("lane -1", x.goesOn(0, -1, 0, 1, 1), BAD);
        due.is("nothing", x.goesOn(1, 0, 0, 1, 1), NULL);
        due.is("another lane", x.goesOn(0, 1, 0, 1, 1), CAST);
        due.is("too many", x.goesOn(0, 0, 1, 12, 1), INDEX);
        x.item(0, 0, 13, 8);
        due.is("8", x.goesOn(0, 0, 0, 7, 1), NOT);
        due.is("8 is not among these", x.goesOn(0, 0, 0, 6, 2), 254);
        x.item(0, 0, 13, -1);
        due.is("-1", x.goesOn(0, 0, 0, 7, 1), NOT);
    }

    private static void told() {
        WallPatience x = new WallPatience();
        x.sheet(0, 3, 24);
        Due.fill(x, 0, 3, 6, 7, 5, 6, 4, 5, 3, 4, 2, 3, 1, 2, 0, 1);
        due.is("one is enough", x.told(0, 3, 0, 7, 0), 1);
        due.is("he is 0", x.told(0, 3, 0, 7, 1), 1);
        due.is("without the last pair", x.told(0, 3, 0, 6, 0), 2);
        due.is("0 and 1", x.told(0, 3, 0, 6, 1), 3);
        due.is("no pairs", x.told(0, 3, 0, 0, 0), 8);
        due.is("all", x.told(0, 3, 0, 0, 1), 255);
        x.item(0, 3, 14, 3);
        due.is("a ring from 3 to 0: the least of it", x.told(0, 3, 0, 8, 1), 1);
        Due.fill(x, 0, 3, 7, 0, 0, 7, 6, 1, 1, 6, 5, 2, 2, 5, 4, 3, 3, 4);
        due.is("four pairs", x.told(0, 3, 0, 8, 0), 4);
        due.is("the least of each", x.told(0, 3, 0, 8, 1), 15);
        due.is("n 13", x.told(0, 3, 0, 13, 0), BAD);
        due.is("n -1", x.told(0, 3, 0, -1, 0), BAD);
        due.is("what 2", x.told(0, 3, 0, 1, 2), BAD);
        due.is("what -1", x.told(0, 3, 0, 1, -1), BAD);
        due.is("sheet -1", x.told(-1, 3, 0, 1, 0), BAD);
        due.is("lane 4", x.told(0, 4, 0, 1, 0), BAD);
        due.is("nothing", x.told(1, 3, 0, 1, 0), NULL);
        due.is("another lane", x.told(0, 2, 0, 1, 0), CAST);
        due.is("too many", x.told(0, 3, 23, 1, 0), INDEX);
        x.item(0, 3, 0, 8);
        due.is("8", x.told(0, 3, 0, 1, 0), NOT);
        due.is("8 is not among these", x.told(0, 3, 2, 1, 0), 7);
        x.item(0, 3, 0, -1);
        due.is("-1", x.told(0, 3, 0, 1, 0), NOT);
        x.item(0, 3, 0, 1L << 32);
        due.is("a long that is not as told", x.told(0, 3, 0, 1, 0), NOT);
    }

    private static void ate() {
        WallPatience x = Due.with("w24,2;p99,5,0,0;p10,9,0,2;");
        x.sheet(0, 2, 9);
        Due.fill(x, 0, 2, 7, 5, 10, 9, 14, 13);
        due.is("ahead of hours 2 and 4", x.ate(0, 0, 2, 1, 5, 1), 20);
        due.is("so alone", x.ate(0, 0, 2, 1, 5, 0), 1);
        Due.fill(x, 0, 2, 5, 10, 15, 20, 25, 30, 35, 40);
        due.is("none, or one ahead of the first", x.ate(0, 0, 2, 0, 8, 0), 2);
        due.is("none", x.ate(0, 0, 2, 0, 8, 1), 0);
        Due.fill(x, 0, 2, 5, 10, 9, 8, 7);
        due.is("three crusts are too many", x.ate(0, 0, 2, 0, 5, 0), 0);
        due.is("no set", x.ate(0, 0, 2, 0, 5, 1), NONE);
        due.is("the two first", x.ate(0, 0, 2, 0, 4, 1), 12);
        due.is("n 0", x.ate(0, 0, 2, 0, 0, 0), BAD);
        due.is("n 9", x.ate(0, 0, 2, 0, 9, 0), BAD);
        due.is("what 2", x.ate(0, 0, 2, 0, 1, 2), BAD);
        due.is("what -1", x.ate(0, 0, 2, 0, 1, -1), BAD);
        due.is("no such", x.ate(2, 0, 2, 0, 1, 0), BAD);
        due.is("sheet 4", x.ate(0, 4, 2, 0, 1, 0), BAD);
        due.is("lane 4", x.ate(0, 0, 4, 0, 1, 0), BAD);
        due.is("nothing", x.ate(0, 1, 2, 0, 1, 0), NULL);
        due.is("another lane", x.ate(0, 0, 1, 0, 1, 0), CAST);
        due.is("too many", x.ate(0, 0, 2, 2, 8, 0), INDEX);
        due.is("i -1", x.ate(0, 0, 2, -1, 1, 0), INDEX);
        x.hours(1);
        due.is("down", x.ate(1, 0, 2, 0, 1, 0), NOT);
        due.is("down, too many", x.ate(1, 0, 2, 9, 1, 0), INDEX);
        due.is("down, another lane", x.ate(1, 0, 1, 9, 1, 0), CAST);
        due.is("down, nothing", x.ate(1, 1, 1, 9, 1, 0), NULL);
        due.is("down, n 9", x.ate(1, 1, 1, 9, 9, 0), BAD);
    }

    /** He is down by the second hour and eats no more, so the later hours may be in the set or not. */
    private static void ateBehindDown() {
        WallPatience x = Due.with("w24,2;p10,5,0,0;");
        x.sheet(0, 0, 4);
        Due.fill(x, 0, 0, 5, 10, 10, 10);
        // hour 0 (nothing to take away), hours 2 and 3: sets of at most two of these three
        due.is("sets", x.ate(0, 0, 0, 0, 4, 0), 7);
        due.is("the least", x.ate(0, 0, 0, 0, 4, 1), 0);
        x.hours(1);
        Due.fill(x, 0, 0, 5, 10, 10, 10);
        // he eats ahead of this hour, and of the second one at most then
        due.is("sets an hour later", x.ate(0, 0, 0, 0, 4, 0), 3);
        due.is("the least an hour later", x.ate(0, 0, 0, 0, 4, 1), 1);
    }

    private static void count() {
        WallPatience x = Due.with("w2,3;p10,5,0,0;p99,1,0,0;");
        int[] fresh = {2, 2, 0, 2, 3, 6, 0, 0, 0, 0};
        for (int what = 0; what < 10; what++) {
            due.is("fresh count(" + what + ")", x.count(what), fresh[what]);
        }
        x.hours(2);
        x.crust(1);
        x.feed(1);
        int[] later = {2, 1, 2, 2, 3, 5, 1, 1, 3, 1};
        for (int what = 0; what < 10; what++) {
            due.is("later count(" + what + ")", x.count(what), later[what]);
        }
        due.is("count(-1)", x.count(-1), BAD);
        due.is("count(10)", x.count(10), BAD);
        x.hours(22);
        due.is("day again", x.count(7), 0);
        x.hours(2);
        due.is("night again", x.count(7), 1);
    }
}
