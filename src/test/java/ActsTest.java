/** Promises 7 to 16: acts, undone and kept. */
public final class ActsTest {
    private static final Due due = new Due();

    public static void main(String[] args) {
        hours();
        hoursToTheLast();
        crust();
        news();
        praise();
        cloak();
        heir();
        undo();
        undoOfEachAct();
        seed();
        image();
        due.end();
    }

    private static void hours() {
        WallPatience x = new WallPatience();
        due.is("hours(0) without a wall", x.hours(0), WallPatience.BAD);
        due.is("hours(25) without a wall", x.hours(25), WallPatience.BAD);
        due.is("hours(1) without a wall", x.hours(1), WallPatience.NOT);
        // skies from draw 1: WIND WIND RAIN RAIN WIND RAIN CLEAR RAIN RAIN WIND
        x = Due.with("w24,0;p99,0,9,0;p10,5,0,0;p11,5,0,0;");
        int[] skies = {1, 1, 2, 2, 1, 2, 0, 2, 2, 1};
        int[] strains = {9, 18, 18, 18, 27, 27, 27, 27, 27, 36};
        int[] sitting = {3, 2, 1, 1, 1, 1, 1, 1, 1, 1};
        for (int h = 0; h < 10; h++) {
            due.is("hours(1)", x.hours(1), sitting[h]);
            due.is("sky " + h, x.count(6), skies[h]);
            due.is("hour", x.count(2), h + 1);
            due.is("strain " + h, x.sitter(0, 5), strains[h]);
        }
        due.is("strain is line: down", x.sitter(1, 10), 1);
        due.is("strain above line: down", x.sitter(2, 10), 2);
        due.is("strain of who is down", x.sitter(2, 5), 15);
        due.is("the draw", x.seed(1), 2007237709);
        due.is("hours(0)", x.hours(0), WallPatience.BAD);
        due.is("hours(-1)", x.hours(-1), WallPatience.BAD);
        due.is("hours(25)", x.hours(25), WallPatience.BAD);
        WallPatience y = Due.with("w24,0;p99,0,9,0;p10,5,0,0;p11,5,0,0;");
        due.is("hours(10)", y.hours(10), 1);
        due.is("the same strain", y.sitter(0, 5), 36);
        due.is("ten acts", y.count(8), 10);
        due.is("hours(24)", y.hours(24), y.count(1));
        due.is("hour 34", y.count(2), 34);
    }

    private static void hoursToTheLast() {
        WallPatience x = Due.with("w24,0;p99,0,0,0;");
        for (int k = 0; k < 416; k++) {
            x.hours(24);
        }
        due.is("hour", x.count(2), 9984);
        due.is("above 9999", x.hours(16), WallPatience.FULL);
        due.is("hours(25)", x.hours(25), WallPatience.BAD);
        due.is("to 9999", x.hours(15), 1);
        due.is("hour 9999", x.count(2), 9999);
        due.is("one more", x.hours(1), WallPatience.FULL);
        due.is("hour 9999 yet", x.count(2), 9999);
        due.is("foretold all the same", x.strain(0, 60), 0);
        due.is("undo", x.undo(), 19);
        due.is("one more then", x.hours(1), 1);
    }

    private static void crust() {
        WallPatience x = Due.with("w24,3;p20,5,0,0;p10,9,0,0;");
        x.hours(3);
        due.is("strain 15", x.sitter(0, 5), 15);
        due.is("crust", x.crust(0), 9);
        due.is("crust", x.crust(0), 3);
        due.is("crust, 0 at least", x.crust(0), 0);
        due.is("no crust", x.crust(0), WallPatience.NOT);
        due.is("crusts", x.sitter(0, 6), 0);
        due.is("all crusts", x.count(5), 3);
        due.is("crusts as told", x.count(4), 3);
        due.is("down", x.crust(1), WallPatience.NOT);
        due.is("crust(-1)", x.crust(-1), WallPatience.BAD);
        due.is("crust(2)", x.crust(2), WallPatience.BAD);
        due.is("six acts", x.count(8), 6);
    }

    private static void news() {
        WallPatience x = Due.with("w24,0;p99,0,0,9;p10,9,0,9;");
        due.is("news(0, 2)", x.news(0, 2), 0);
        due.is("bad", x.growth(0, 0), 9);
        due.is("news(0, 1)", x.news(0, 1), 2);
        due.is("good", x.growth(0, 0), 0);
        due.is("news(0, 0)", x.news(0, 0), 1);
        due.is("none", x.growth(0, 0), 4);
        due.is("news(0, 0) again", x.news(0, 0), 0);
        due.is("four acts", x.count(8), 4);
        due.is("news(0, 3)", x.news(0, 3), WallPatience.BAD);
        due.is("news(0, -1)", x.news(0, -1), WallPatience.BAD);
        due.is("news(2, 0)", x.news(2, 0), WallPatience.BAD);
        x.hours(1);
        due.is("down", x.news(1, 1), WallPatience.NOT);
        due.is("down, and 3", x.news(1, 3), WallPatience.BAD);
    }

    private static void praise() {
        WallPatience x = Due.with("w24,0;p99,9,0,9;p10,9,0,9;");
        for (int k = 1; k <= 9; k++) {
            due.is("praise", x.praise(0), k);
            due.is("growth", x.growth(0, 0), 13 - k);
        }
        due.is("praise at 9", x.praise(0), WallPatience.NOT);
        due.is("nine acts", x.count(8), 9);
        due.is("praise(-1)", x.praise(-1), WallPatience.BAD);
        due.is("praise(2)", x.praise(2), WallPatience.BAD);
        x.hours(1);
        due.is("down", x.praise(1), WallPatience.NOT);
    }

    private static void cloak() {
        WallPatience x = Due.with("w24,0;p99,0,9,0;p10,5,9,0;p99,0,0,0;");
        due.is("taken, has none", x.cloak(0, 0), WallPatience.NOT);
        due.is("given", x.cloak(0, 1), 1);
        due.is("given again", x.cloak(0, 1), WallPatience.NOT);
        due.is("half the chill", x.growth(0, 1), 4);
        due.is("another", x.cloak(1, 1), 2);
        due.is("a third", x.cloak(2, 1), 3);
        due.is("taken", x.cloak(2, 0), 2);
        due.is("four acts", x.count(8), 4);
        due.is("cloak(0, 2)", x.cloak(0, 2), WallPatience.BAD);
        due.is("cloak(0, -1)", x.cloak(0, -1), WallPatience.BAD);
        due.is("cloak(3, 1)", x.cloak(3, 1), WallPatience.BAD);
        x.hours(2);
        due.is("down", x.sitter(1, 10), 1);
        due.is("cloak of who is down", x.cloak(1, 0), WallPatience.NOT);
        due.is("his counts too", x.cloak(0, 0), 1);
    }

    private static void heir() {
        WallPatience x = Due.with("w24,4;h13,3,0,4;p99,0,0,0;");
        x.crust(0);
        x.news(0, 2);
        x.praise(0);
        x.cloak(0, 1);
        x.news(0, 2);
        due.is("heir of who sits", x.heir(0), WallPatience.NOT);
        due.is("heir(-1)", x.heir(-1), WallPatience.BAD);
        due.is("heir(2)", x.heir(2), WallPatience.BAD);
        due.is("down", x.hours(3), 1);
        due.is("down in hour 2", x.sitter(0, 10), 2);
        due.is("heir", x.heir(0), 11);
        int[] want = {2, 11, 3, 0, 4, 0, 4, 0, 0, 0, WallPatience.NONE};
        for (int what = 0; what <= 10; what++) {
            due.is("heir's " + what, x.sitter(0, what), want[what]);
        }
        due.is("two sit", x.count(1), 2);
        due.is("his cloak is gone", x.cloak(1, 1), 1);
        due.is("heir again", x.heir(0), WallPatience.NOT);
        x.hours(3);
        due.is("10 at least", x.heir(0), 10);
        x.hours(3);
        due.is("10 yet", x.heir(0), 10);
    }

    private static void undo() {
        WallPatience x = Due.with("w24,9;p99,1,1,0;");
        due.is("none", x.undo(), WallPatience.NONE);
        due.is("24 hours", x.hours(24), 1);
        due.is("20 can be undone", x.count(8), 20);
        for (int left = 19; left >= 0; left--) {
            due.is("undo", x.undo(), left);
            due.is("hour", x.count(2), left + 4);
            due.is("can be undone", x.count(8), left);
        }
        due.is("none more", x.undo(), WallPatience.NONE);
        due.is("sky of hour 3", x.count(6), 2);
        due.is("strain as behind 4 hours", x.sitter(0, 5), 6);
        due.is("the draw too", x.seed(9), 984943658);
        for (int k = 0; k < 3; k++) {
            for (int v = 0; v < 8; v++) {
                x.news(0, v % 3);
            }
        }
        due.is("20 at most", x.count(8), 20);
        for (int left = 19; left >= 0; left--) {
            x.undo();
        }
        due.is("hour 4", x.count(2), 4);
        due.is("news of the fourth act", x.sitter(0, 7), 0);
    }

    private static void undoOfEachAct() {
        WallPatience x = Due.with("w24,9;p20,4,1,4;");
        x.hours(1);
        x.crust(0);
        x.news(0, 2);
        x.praise(0);
        x.cloak(0, 1);
        x.cloak(0, 0);
        x.hours(4);
        due.is("down", x.sitter(0, 10), 3);
        x.heir(0);
        due.is("undo heir", x.undo(), 10);
        due.is("line", x.sitter(0, 1), 20);
        due.is("down again", x.sitter(0, 10), 3);
        due.is("news again", x.sitter(0, 7), 2);
        due.is("crusts again", x.sitter(0, 6), 8);
        x.undo();
        due.is("hour 4", x.count(2), 4);
        due.is("down yet", x.count(1), 0);
        x.undo();
        due.is("sits", x.count(1), 1);
        x.undo();
        x.undo();
        due.is("undo cloak taken", x.undo(), 5);
        due.is("cloak", x.sitter(0, 9), 1);
        due.is("undo cloak given", x.undo(), 4);
        due.is("no cloak", x.sitter(0, 9), 0);
        due.is("undo praise", x.undo(), 3);
        due.is("no pride", x.sitter(0, 8), 0);
        due.is("undo news", x.undo(), 2);
        due.is("no news", x.sitter(0, 7), 0);
        due.is("undo crust", x.undo(), 1);
        due.is("crusts", x.sitter(0, 6), 9);
        due.is("strain", x.sitter(0, 5), 7);
        x.crust(0);
        due.is("seed is no act", x.seed(77), 16807);
        due.is("the hour and the crust", x.count(8), 2);
        due.is("undo crust", x.undo(), 1);
        due.is("the draw as ahead of the act", x.seed(77), 16807);
        due.is("a refused act is none", x.heir(0), WallPatience.NOT);
        due.is("the hour alone", x.count(8), 1);
    }

    private static void seed() {
        WallPatience x = new WallPatience();
        due.is("seed(0)", x.seed(0), WallPatience.BAD);
        due.is("seed(-1)", x.seed(-1), WallPatience.BAD);
        due.is("seed(2147483647)", x.seed(2147483647), WallPatience.BAD);
        due.is("seed(2147483646)", x.seed(2147483646), 1);
        due.is("seed(7)", x.seed(7), 2147483646);
        Due.feed(x, "w24,0;p99,0,9,0;");
        x.wall();
        x.hours(1);
        // 7 * 16807 = 117649, whose rest by 3 is 1
        due.is("wind", x.count(6), 1);
        due.is("seed(2147483646)", x.seed(2147483646), 117649);
        due.is("the sky stays", x.count(6), 1);
        x.hours(1);
        // 16807 * -1 is 2147483647 - 16807, whose rest by 3 is 0
        due.is("clear", x.count(6), 0);
        due.is("the draw", x.seed(1), 2147466840);
    }

    private static void image() {
        WallPatience x = new WallPatience();
        due.is("image(2) without a wall", x.image(2), WallPatience.BAD);
        due.is("image(0) without a wall", x.image(0), WallPatience.NOT);
        due.is("restore(-1)", x.restore(-1), WallPatience.BAD);
        due.is("restore(2)", x.restore(2), WallPatience.BAD);
        Due.feed(x, "w3,5;p12,4,0,0;y99,1,1,1;m99,0,0,9;");
        x.wall();
        due.is("image(-1)", x.image(-1), WallPatience.BAD);
        x.hours(3);
        x.crust(1);
        due.is("image(0)", x.image(0), 2);
        due.is("acts stay", x.count(8), 4);
        x.heir(0);
        x.news(2, 2);
        x.praise(2);
        x.cloak(2, 1);
        x.hours(2);
        due.is("image(1)", x.image(1), 3);
        x.seed(55);
        Due.feed(x, "w9,9;p10,0,0,0;");
        x.wall();
        Due.feed(x, "w9");
        due.is("restore(0)", x.restore(0), 2);
        due.is("the tape stays", x.count(9), 2);
        due.is("sitters", x.count(0), 3);
        due.is("hour", x.count(2), 3);
        due.is("dusk", x.count(3), 3);
        due.is("crusts as told", x.count(4), 5);
        due.is("all crusts", x.count(5), 14);
        due.is("sky", x.count(6), 2);
        due.is("night", x.count(7), 1);
        due.is("no acts", x.count(8), 0);
        due.is("none", x.undo(), WallPatience.NONE);
        due.is("line", x.sitter(0, 1), 12);
        due.is("down", x.sitter(0, 10), 2);
        due.is("news", x.sitter(2, 7), 0);
        due.is("the draw", x.seed(1), 1622650073);
        due.is("restore(1)", x.restore(1), 3);
        due.is("heir's line", x.sitter(0, 1), 10);
        due.is("heir's strain", x.sitter(0, 5), 8);
        due.is("news", x.sitter(2, 7), 2);
        due.is("pride", x.sitter(2, 8), 1);
        due.is("cloak", x.sitter(2, 9), 1);
        due.is("the draw", x.seed(1), 1144108930);
        x.hours(1);
        due.is("an image can be restored again", x.restore(1), 3);
        due.is("hour", x.count(2), 5);
    }
}
