/** Promises 1 to 6: what is told. */
public final class ToldTest {
    private static final Due due = new Due();

    public static void main(String[] args) {
        newObject();
        feed();
        faults();
        readWalls();
        faultKeepsTheWall();
        newWallStandsInPlace();
        sitter();
        growthByDay();
        growthByNight();
        growthByState();
        as();
        due.end();
    }

    private static void newObject() {
        WallPatience x = new WallPatience();
        for (int what = 0; what <= 9; what++) {
            due.is("new count(" + what + ")", x.count(what), 0);
        }
        due.is("new sitter", x.sitter(0, 0), WallPatience.BAD);
        due.is("new growth", x.growth(0, 0), WallPatience.BAD);
        due.is("new as", x.as(0, 0), WallPatience.BAD);
        due.is("new crust", x.crust(0), WallPatience.BAD);
        due.is("new strain", x.strain(0, 0), WallPatience.BAD);
        due.is("new undo", x.undo(), WallPatience.NONE);
        due.is("new restore(0)", x.restore(0), WallPatience.NOT);
        due.is("new restore(1)", x.restore(1), WallPatience.NOT);
        due.is("new draw", x.seed(5), 1);
        for (int sheet = 0; sheet < 4; sheet++) {
            due.is("new drop", x.drop(sheet), WallPatience.NULL);
        }
    }

    private static void feed() {
        WallPatience x = new WallPatience();
        due.is("feed(-1)", x.feed(-1), WallPatience.BAD);
        due.is("feed(256)", x.feed(256), WallPatience.BAD);
        due.is("feed(least)", x.feed(Integer.MIN_VALUE), WallPatience.BAD);
        for (int k = 1; k <= 90; k++) {
            due.is("feed", x.feed(k % 2 == 0 ? 0 : 255), k);
            due.is("count(9)", x.count(9), k);
        }
        due.is("feed the 91st", x.feed(0), WallPatience.FULL);
        due.is("feed(256) when full", x.feed(256), WallPatience.BAD);
        due.is("count(9) when full", x.count(9), 90);
        due.is("wall of odd bytes", x.wall(), -100);
        due.is("count(9) then", x.count(9), 0);
        due.is("feed again", x.feed(0), 1);
    }

    private static void fault(String text, int place) {
        WallPatience x = new WallPatience();
        Due.feed(x, text);
        due.is("wall of " + text, x.wall(), -100 - place);
        due.is("no wall by " + text, x.count(0), 0);
        due.is("empty tape behind " + text, x.count(9), 0);
    }

    private static void faults() {
        fault("", 0);
        fault("x", 0);
        fault("W5,1;", 0);
        fault("w", 1);
        fault("w,", 1);
        fault("w 5,1;", 1);
        fault("w0,1;", 1);
        fault("w00,1;", 1);
        fault("w25,1;", 1);
        fault("w25", 1);
        fault("w005,1;", 1);
        fault("w24", 3);
        fault("w24;", 3);
        fault("w24,", 4);
        fault("w24,;", 4);
        fault("w24,-1;", 4);
        fault("w24,10;", 4);
        fault("w24,009;", 4);
        fault("w24,9", 5);
        fault("w24,9,", 5);
        fault("w24,9;", 6);
        fault("w24,9;q10,0,0,0;", 6);
        fault("w24,9;w", 6);
        fault("w24,9;p", 7);
        fault("w24,9;pp", 7);
        fault("w24,9;p9,0,0,0;", 7);
        fault("w24,9;p09,0,0,0;", 7);
        fault("w24,9;p100,0,0,0;", 7);
        fault("w24,9;p010,0,0,0;", 7);
        fault("w24,9;p10", 9);
        fault("w24,9;p10;", 9);
        fault("w24,9;p10,10,0,0;", 10);
        fault("w24,9;p10,,0,0;", 10);
        fault("w24,9;p10,9,10,0;", 12);
        fault("w24,9;p10,9,9,10;", 14);
        fault("w24,9;p10,9,9,9", 15);
        fault("w24,9;p10,9,9,9,", 15);
        fault("w24,9;p10,9,9,9; ", 16);
        fault("w24,9;p10,9,9,9;w", 16);
        fault("w24,9;p10,9,9,9;h10,1,1,12;", 24);
        fault("w1,0;" + "p10,0,0,0;".repeat(6) + "p10,0,0,0;", 65);
        fault("w1,0;" + "p10,0,0,0;".repeat(6) + ";", 65);
    }

    private static void readWalls() {
        for (int n = 1; n <= 6; n++) {
            WallPatience x = new WallPatience();
            Due.feed(x, "w1,0;" + "p10,0,0,0;".repeat(n));
            due.is("wall of " + n, x.wall(), n);
            due.is("count(0) of " + n, x.count(0), n);
        }
        WallPatience x = Due.with("w01,09;p10,00,01,09;s99,9,9,9;");
        due.is("dusk with two figures", x.count(3), 1);
        due.is("crusts with two figures", x.count(4), 9);
        due.is("hunger with two figures", x.sitter(0, 2), 0);
        due.is("cold with two figures", x.sitter(0, 3), 1);
        due.is("worry with two figures", x.sitter(0, 4), 9);
        WallPatience longest = new WallPatience();
        Due.feed(longest, "w24,09;" + "s99,09,09,09;".repeat(6));
        due.is("bytes of the longest", longest.count(9), 85);
        due.is("the longest wall", longest.wall(), 6);
    }

    private static void faultKeepsTheWall() {
        WallPatience x = Due.with("w20,3;p90,1,0,0;");
        x.hours(2);
        x.crust(0);
        Due.feed(x, "w3,3;");
        due.is("a fault", x.wall(), -105);
        due.is("hour stays", x.count(2), 2);
        due.is("dusk stays", x.count(3), 20);
        due.is("crusts stay", x.count(5), 2);
        due.is("acts stay", x.count(8), 3);
        due.is("undo yet", x.undo(), 2);
    }

    private static void newWallStandsInPlace() {
        WallPatience x = Due.with("w5,3;p20,5,0,0;p90,0,0,0;");
        x.sheet(0, 1, 3);
        x.image(1);
        x.hours(5);
        x.praise(1);
        x.news(1, 2);
        x.cloak(1, 1);
        x.crust(1);
        due.is("one sits", x.count(1), 1);
        due.is("sky of the fifth hour", x.count(6), 1);
        due.is("night", x.count(7), 1);
        Due.feed(x, "w7,2;h30,1,2,3;y40,4,5,6;");
        due.is("a new wall", x.wall(), 2);
        due.is("all sit", x.count(1), 2);
        due.is("hour 0", x.count(2), 0);
        due.is("dusk", x.count(3), 7);
        due.is("crusts as told", x.count(4), 2);
        due.is("all crusts", x.count(5), 4);
        due.is("no sky yet", x.count(6), 0);
        due.is("day", x.count(7), 0);
        due.is("no acts", x.count(8), 0);
        due.is("no undo", x.undo(), WallPatience.NONE);
        for (int one = 0; one < 2; one++) {
            due.is("strain", x.sitter(one, 5), 0);
            due.is("crusts", x.sitter(one, 6), 2);
            due.is("news", x.sitter(one, 7), 0);
            due.is("pride", x.sitter(one, 8), 0);
            due.is("cloak", x.sitter(one, 9), 0);
            due.is("sits", x.sitter(one, 10), WallPatience.NONE);
        }
        due.is("the draw stays", x.seed(9), 1144108930);
        due.is("the sheet stays", x.drop(0), 3);
        due.is("the image stays", x.restore(1), 2);
        due.is("the image's dusk", x.count(3), 5);
        due.is("the image's draw", x.seed(9), 1);
    }

    private static void sitter() {
        WallPatience x = Due.with("w5,4;p10,1,2,3;h20,4,5,6;m30,7,8,9;y40,0,1,2;s50,3,4,5;");
        int[][] want = {{1, 10, 1, 2, 3}, {2, 20, 4, 5, 6}, {3, 30, 7, 8, 9}, {4, 40, 0, 1, 2}, {5, 50, 3, 4, 5}};
        int[] fresh = {0, 4, 0, 0, 0, WallPatience.NONE};
        for (int one = 0; one < 5; one++) {
            for (int what = 0; what < 5; what++) {
                due.is("sitter(" + one + ", " + what + ")", x.sitter(one, what), want[one][what]);
            }
            for (int what = 5; what <= 10; what++) {
                due.is("sitter(" + one + ", " + what + ")", x.sitter(one, what), fresh[what - 5]);
            }
        }
        due.is("sitter(-1, 0)", x.sitter(-1, 0), WallPatience.BAD);
        due.is("sitter(5, 0)", x.sitter(5, 0), WallPatience.BAD);
        due.is("sitter(6, 0)", x.sitter(6, 0), WallPatience.BAD);
        due.is("sitter(0, -1)", x.sitter(0, -1), WallPatience.BAD);
        due.is("sitter(0, 11)", x.sitter(0, 11), WallPatience.BAD);
        x.crust(3);
        x.news(3, 1);
        x.praise(3);
        x.cloak(3, 1);
        due.is("crusts left", x.sitter(3, 6), 3);
        due.is("good news", x.sitter(3, 7), 1);
        due.is("pride", x.sitter(3, 8), 1);
        due.is("cloak", x.sitter(3, 9), 1);
        x.hours(2);
        due.is("down at once", x.sitter(2, 10), 1);
        due.is("strain of who is down", x.sitter(2, 5), 46);
        x.hours(3);
        due.is("strain stays", x.sitter(2, 5), 46);
        due.is("and the hour", x.sitter(2, 10), 1);
    }

    private static void growths(WallPatience x, String when, int[][] want) {
        for (int one = 0; one < want.length; one++) {
            for (int sky = 0; sky < 3; sky++) {
                due.is(when + " growth(" + one + ", " + sky + ")", x.growth(one, sky), want[one][sky]);
            }
        }
    }

    private static void growthByDay() {
        WallPatience x = Due.with("w1,0;p99,2,5,7;h99,2,5,7;m99,2,5,7;y99,2,5,7;s99,2,5,7;");
        growths(x, "by day", new int[][] {{5, 10, 5}, {5, 10, 5}, {8, 13, 8}, {6, 11, 6}, {6, 11, 6}});
        due.is("growth(-1, 0)", x.growth(-1, 0), WallPatience.BAD);
        due.is("growth(5, 0)", x.growth(5, 0), WallPatience.BAD);
        due.is("growth(0, -1)", x.growth(0, -1), WallPatience.BAD);
        due.is("growth(0, 3)", x.growth(0, 3), WallPatience.BAD);
    }

    private static void growthByNight() {
        WallPatience x = Due.with("w1,0;p99,2,5,7;h99,2,5,7;m99,2,5,7;y99,2,5,7;s99,2,5,7;p10,9,9,9;");
        x.hours(1);
        growths(x, "by night", new int[][] {{10, 15, 10}, {10, 15, 10}, {13, 18, 13}, {11, 16, 11}, {5, 8, 5}});
        due.is("who is down grows too", x.sitter(5, 10), 0);
        due.is("growth of who is down", x.growth(5, 1), 31);
        x.hours(23);
        due.is("the next day", x.count(7), 0);
        due.is("growth the next day", x.growth(0, 0), 5);
        WallPatience never = Due.with("w24,0;p99,0,1,0;");
        never.hours(23);
        due.is("no night by dusk 24", never.count(7), 0);
        due.is("growth by dusk 24", never.growth(0, 0), 0);
    }

    private static void growthByState() {
        WallPatience x = Due.with("w1,0;p99,2,5,7;h99,2,5,7;m99,2,5,7;y99,2,5,7;s99,2,5,7;");
        for (int one = 0; one < 5; one++) {
            x.cloak(one, 1);
            x.news(one, 2);
        }
        growths(x, "cloak, bad news", new int[][] {{9, 11, 9}, {9, 11, 9}, {16, 18, 16}, {10, 12, 10}, {10, 12, 10}});
        for (int one = 0; one < 5; one++) {
            x.news(one, 1);
            x.praise(one);
        }
        growths(x, "cloak, good news, pride", new int[][] {{1, 3, 1}, {0, 2, 0}, {1, 3, 1}, {2, 4, 2}, {2, 4, 2}});
        for (int one = 0; one < 5; one++) {
            x.praise(one);
            x.praise(one);
        }
        growths(x, "pride 3", new int[][] {{0, 1, 0}, {0, 0, 0}, {0, 1, 0}, {0, 2, 0}, {0, 2, 0}});
        x.hours(1);
        growths(x, "pride 3 by night", new int[][] {{1, 4, 1}, {0, 1, 0}, {1, 4, 1}, {2, 5, 2}, {1, 2, 1}});
    }

    private static void as() {
        WallPatience x = Due.with("w5,0;p10,0,0,0;h10,0,0,0;m10,0,0,0;y10,0,0,0;s10,0,0,0;");
        int[][] is = {{0, 1}, {0, 1, 2}, {0, 1, 3}, {0, 4}, {0, 4, 5}};
        for (int one = 0; one < 5; one++) {
            for (int kind = 0; kind <= 5; kind++) {
                boolean such = false;
                for (int k : is[one]) {
                    such |= k == kind;
                }
                due.is("as(" + one + ", " + kind + ")", x.as(one, kind), such ? one : WallPatience.CAST);
            }
        }
        due.is("as(-1, 0)", x.as(-1, 0), WallPatience.BAD);
        due.is("as(5, 0)", x.as(5, 0), WallPatience.BAD);
        due.is("as(0, -1)", x.as(0, -1), WallPatience.BAD);
        due.is("as(0, 6)", x.as(0, 6), WallPatience.BAD);
    }
}
