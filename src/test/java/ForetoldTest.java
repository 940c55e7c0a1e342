/** Promises 17 to 26: what is foretold. Skies from draw 1: WIND WIND RAIN RAIN WIND RAIN CLEAR RAIN RAIN WIND. */
public final class ForetoldTest {
    private static final int BAD = WallPatience.BAD, NOT = WallPatience.NOT, NONE = WallPatience.NONE;
    private static final Due due = new Due();

    public static void main(String[] args) {
        strain();
        down();
        duel();
        honour();
        eat();
        train();
        trainTies();
        dusk();
        odds();
        challenge();
        game();
        nothingChanges();
        due.end();
    }

    private static void strain() {
        WallPatience x = Due.with("w24,0;p99,0,9,0;p11,5,0,0;");
        int[] want = {0, 9, 18, 18, 18, 27, 27, 27, 27, 27, 36};
        for (int n = 0; n <= 10; n++) {
            due.is("strain(0, " + n + ")", x.strain(0, n), want[n]);
        }
        due.is("stays when down", x.strain(1, 60), 15);
        due.is("strain(0, -1)", x.strain(0, -1), BAD);
        due.is("strain(0, 61)", x.strain(0, 61), BAD);
        due.is("strain(2, 1)", x.strain(2, 1), BAD);
        due.is("strain(-1, 1)", x.strain(-1, 1), BAD);
        x.hours(5);
        due.is("from now", x.strain(0, 5), 36);
        due.is("of who is down", x.strain(1, 5), 15);
        WallPatience y = Due.with("w5,0;p99,0,9,0;");
        due.is("with the night", y.strain(0, 10), 81);
        y.hours(6);
        due.is("with the night, from now", y.strain(0, 4), 81);
    }

    private static void down() {
        WallPatience x = Due.with("w24,0;p30,5,0,0;p60,1,0,0;p61,1,0,0;p99,0,0,0;p10,9,0,2;");
        due.is("down(0)", x.down(0), 6);
        due.is("down(1)", x.down(1), 60);
        due.is("down(2)", x.down(2), NONE);
        due.is("down(3)", x.down(3), NONE);
        due.is("down(4)", x.down(4), 1);
        due.is("down(-1)", x.down(-1), BAD);
        due.is("down(5)", x.down(5), BAD);
        x.hours(1);
        due.is("down(0) an hour later", x.down(0), 5);
        due.is("down(2) an hour later", x.down(2), 60);
        due.is("down(4) an hour later", x.down(4), 0);
    }

    private static void duel() {
        WallPatience x = Due.with("w24,0;p60,1,0,0;p61,1,0,0;p99,0,0,0;p59,1,0,0;p60,1,0,0;p10,9,0,2;");
        due.is("duel(0, 1)", x.duel(0, 1), 1);
        due.is("duel(1, 0)", x.duel(1, 0), 1);
        due.is("duel(0, 3)", x.duel(0, 3), 0);
        due.is("duel(3, 0)", x.duel(3, 0), 0);
        due.is("neither", x.duel(1, 2), NONE);
        due.is("in the same hour", x.duel(0, 4), NONE);
        due.is("duel(0, 0)", x.duel(0, 0), BAD);
        due.is("duel(0, 6)", x.duel(0, 6), BAD);
        due.is("duel(-1, 0)", x.duel(-1, 0), BAD);
        x.hours(1);
        due.is("the other is down", x.duel(0, 5), NOT);
        due.is("one is down", x.duel(5, 0), NOT);
        due.is("down and himself", x.duel(5, 5), BAD);
    }

    private static void honour() {
        WallPatience x = Due.with("w24,0;p10,1,0,0;p20,1,0,0;p20,1,0,0;p99,0,0,0;p99,0,0,0;");
        int[] want = {6, 9, 9, 13, 13};
        for (int one = 0; one < 5; one++) {
            due.is("honour(" + one + ")", x.honour(one), want[one]);
        }
        x.hours(10);
        due.is("down", x.honour(0), NOT);
        int[] later = {0, 8, 8, 12, 12};
        for (int one = 1; one < 5; one++) {
            due.is("honour(" + one + ") later", x.honour(one), later[one]);
        }
        due.is("honour(-1)", x.honour(-1), BAD);
        due.is("honour(5)", x.honour(5), BAD);
        due.is("alone", Due.with("w24,0;p10,1,0,0;").honour(0), 10);
    }

    private static void eats(String wall, int n, int hours, int set) {
        WallPatience x = Due.with(wall);
        due.is(wall + " eat(0, " + n + ", 0)", x.eat(0, n, 0), hours);
        due.is(wall + " eat(0, " + n + ", 1)", x.eat(0, n, 1), set);
    }

    private static void eat() {
        eats("w24,0;p20,5,0,0;", 8, 3, 0);
        eats("w24,1;p20,5,0,0;", 8, 5, 4);
        eats("w24,1;p20,5,0,0;", 3, 3, 0);
        eats("w24,1;p20,5,0,0;", 4, 4, 2);
        eats("w24,2;p20,5,0,0;", 8, 6, 10);
        eats("w24,9;p10,9,0,2;", 8, 0, 0);
        eats("w24,9;p99,9,0,0;", 8, 8, 0);
        eats("w24,9;p99,0,0,0;", 1, 1, 0);
        WallPatience x = Due.with("w24,2;p20,5,0,0;p10,9,0,2;");
        due.is("n 0", x.eat(0, 0, 0), BAD);
        due.is("n 9", x.eat(0, 9, 0), BAD);
        due.is("what -1", x.eat(0, 1, -1), BAD);
        due.is("what 2", x.eat(0, 1, 2), BAD);
        due.is("no such", x.eat(2, 1, 0), BAD);
        x.hours(1);
        due.is("down", x.eat(1, 1, 0), NOT);
        due.is("down, n 9", x.eat(1, 9, 0), BAD);
        due.is("an hour later", x.eat(0, 8, 0), 5);
        due.is("an hour later, which", x.eat(0, 8, 1), 5);
    }

    private static void trains(String wall, int n, int cost, int a, int b, int c) {
        WallPatience x = Due.with(wall);
        int[] want = {cost, a, b, c};
        for (int what = 0; what < 4; what++) {
            due.is(wall + " train(0, " + n + ", " + what + ")", x.train(0, n, what), want[what]);
        }
    }

    private static void train() {
        trains("w24,0;p20,5,0,0;", 3, 0, 0, 0, 0);
        trains("w24,0;p20,5,0,0;", 4, 2, 1, 0, 0);
        trains("w24,0;p20,5,0,0;", 5, 7, 1, 1, 0);
        trains("w24,0;p20,5,0,0;", 8, 15, 0, 3, 0);
        trains("w24,0;p10,3,3,0;", 2, 5, 1, 0, 1);
        trains("w24,0;p95,0,0,9;", 24, 4, 2, 0, 0);
        trains("w24,0;p95,0,0,9;", 25, NONE, NONE, NONE, NONE);
        trains("w24,0;p60,0,0,9;", 19, 34, 17, 0, 0);
        trains("w24,0;p60,0,0,9;", 20, NONE, NONE, NONE, NONE);
        trains("w24,0;p59,0,0,9;", 19, 36, 18, 0, 0);
        trains("w24,0;p21,1,0,0;", 40, 5, 0, 1, 0);
        trains("w24,0;y21,0,0,0;", 40, 40, 20, 0, 0);
        trains("w24,0;y20,0,0,0;", 40, NONE, NONE, NONE, NONE);
        WallPatience x = Due.with("w24,0;p20,5,0,0;p10,9,0,2;");
        due.is("n 0", x.train(0, 0, 0), BAD);
        due.is("n 41", x.train(0, 41, 0), BAD);
        due.is("what -1", x.train(0, 1, -1), BAD);
        due.is("what 4", x.train(0, 1, 4), BAD);
        due.is("no such", x.train(2, 1, 0), BAD);
        x.hours(1);
        due.is("down", x.train(1, 1, 0), NOT);
        due.is("down, n 0", x.train(1, 0, 0), BAD);
        due.is("an hour later", x.train(0, 7, 0), 15);
    }

    private static void trainTies() {
        // three hours, two of wind: 5 is the cost of a 1, c 1 and of b 1
        trains("w24,0;p17,5,2,0;", 3, 5, 0, 1, 0);
        // five hours, three of wind: 15 is the cost of b 3 and of c 5
        trains("w24,0;p16,3,5,0;", 5, 15, 0, 0, 5);
        trains("w24,0;p18,6,5,0;", 2, 8, 1, 0, 2);
        // half the chill by a cloak: 21 is the cost of c 7 and of a 2, b 1, c 4
        WallPatience x = Due.with("w1,0;s51,4,7,8;");
        x.cloak(0, 1);
        int[] want = {21, 0, 0, 7};
        for (int what = 0; what < 4; what++) {
            due.is("with a cloak train(0, 11, " + what + ")", x.train(0, 11, what), want[what]);
        }
    }

    private static void dusk() {
        due.is("without a wall, n 0", new WallPatience().dusk(0), BAD);
        due.is("without a wall", new WallPatience().dusk(1), NOT);
        WallPatience x = Due.with("w24,0;p10,0,1,0;p10,0,1,0;");
        due.is("dusk(0)", x.dusk(0), BAD);
        due.is("dusk(41)", x.dusk(41), BAD);
        due.is("dusk(5)", x.dusk(5), NONE);
        due.is("dusk(10)", x.dusk(10), 4);
        x.hours(2);
        due.is("dusk(8) two hours later", x.dusk(8), 4);
        due.is("the dusk itself stays", x.count(3), 24);
        due.is("one alone", Due.with("w1,0;p99,0,0,0;").dusk(1), 24);
        due.is("one of two", Due.with("w1,0;p99,0,0,0;p10,9,0,2;").dusk(1), 24);
        due.is("two of two", Due.with("w1,0;p99,0,0,0;p10,1,0,0;").dusk(9), NONE);
        due.is("one of two then", Due.with("w1,0;p99,0,0,0;p10,1,0,0;").dusk(10), 24);
        // the sleepy one grows by 9 by day alone, the plain one by 1 always: by night both sit
        due.is("a sleepy one", Due.with("w1,0;s20,9,0,0;p99,0,0,0;").dusk(2), 24);
        due.is("a sleepy one and the night", Due.with("w1,0;s18,7,0,0;p99,0,0,0;").dusk(3), 24);
    }

    private static void chance(String wall, int one, int n, int p, long above, long below) {
        WallPatience x = Due.with(wall);
        String call = wall + " odds(" + one + ", " + (1 - one) + ", " + n + ", " + p + ", ";
        due.is(call + "0)", x.odds(one, 1 - one, n, p, 0), above);
        due.is(call + "1)", x.odds(one, 1 - one, n, p, 1), below);
    }

    private static void odds() {
        String wall = "w24,0;p99,0,0,0;p10,0,5,0;";
        chance(wall, 0, 0, 5, 0, 1);
        chance(wall, 0, 1, 5, 0, 1);
        chance(wall, 0, 2, 5, 1, 4);
        chance(wall, 0, 3, 3, 27, 125);
        chance(wall, 0, 2, 3, 9, 100);
        chance(wall, 0, 10, 0, 0, 1);
        chance(wall, 0, 10, 10, 1, 1);
        // less than two winds of ten: 9^10 + 10 9^9 of 10^10
        chance(wall, 0, 10, 1, 2639010709L, 10000000000L);
        chance(wall, 1, 10, 5, 0, 1);
        chance("w24,0;p10,0,3,0;p10,0,5,0;", 0, 3, 3, 27, 125);
        chance("w24,0;p10,0,3,0;p10,0,5,0;", 1, 10, 3, 0, 1);
        chance("w24,0;p10,0,5,0;p10,0,5,0;", 0, 10, 3, 0, 1);
        // the second hour is by night: one wind of two is enough
        chance("w1,0;p99,0,0,0;p10,0,5,0;", 0, 2, 5, 3, 4);
        WallPatience x = Due.with("w24,0;p99,0,0,0;p10,0,5,0;p10,9,0,2;");
        due.is("n -1", x.odds(0, 1, -1, 5, 0), BAD);
        due.is("n 11", x.odds(0, 1, 11, 5, 0), BAD);
        due.is("p -1", x.odds(0, 1, 1, -1, 0), BAD);
        due.is("p 11", x.odds(0, 1, 1, 11, 0), BAD);
        due.is("part -1", x.odds(0, 1, 1, 5, -1), BAD);
        due.is("part 2", x.odds(0, 1, 1, 5, 2), BAD);
        due.is("himself", x.odds(0, 0, 1, 5, 0), BAD);
        due.is("no such", x.odds(0, 3, 1, 5, 0), BAD);
        due.is("no such", x.odds(-1, 0, 1, 5, 0), BAD);
        x.hours(1);
        due.is("the other is down", x.odds(0, 2, 1, 5, 0), NOT);
        due.is("one is down", x.odds(2, 0, 1, 5, 0), NOT);
        due.is("down, part 2", x.odds(2, 0, 1, 5, 2), BAD);
        due.is("a wind less is needed", x.odds(0, 1, 1, 5, 1), 2);
    }

    private static void challenge() {
        WallPatience x = Due.with("w24,0;p99,0,0,0;p20,0,5,0;p10,0,5,0;p10,0,5,0;p11,5,0,5;");
        due.is("challenge(0, 3, 3)", x.challenge(0, 3, 3), 4);
        due.is("challenge(0, 0, 3): odds of none are like", x.challenge(0, 0, 3), 1);
        due.is("challenge(1, 0, 3)", x.challenge(1, 0, 3), 0);
        due.is("n -1", x.challenge(0, -1, 5), BAD);
        due.is("n 11", x.challenge(0, 11, 5), BAD);
        due.is("p -1", x.challenge(0, 1, -1), BAD);
        due.is("p 11", x.challenge(0, 1, 11), BAD);
        due.is("no such", x.challenge(5, 1, 5), BAD);
        x.hours(2);
        // sitters 2 and 3 got down by two winds, 4 by hunger
        due.is("of those who sit", x.challenge(0, 10, 10), 1);
        due.is("down", x.challenge(2, 3, 3), NOT);
        due.is("down, n 11", x.challenge(2, 11, 3), BAD);
        due.is("none", Due.with("w24,0;p99,0,0,0;").challenge(0, 3, 3), NONE);
        WallPatience y = Due.with("w24,0;p99,0,0,0;p20,0,5,0;p10,0,5,0;p10,0,5,0;");
        due.is("the first of the greatest", y.challenge(0, 3, 3), 2);
        due.is("not himself", y.challenge(2, 3, 3), 0);
    }

    private static void game() {
        WallPatience x = Due.with("w24,0;p50,0,0,8;p60,0,0,4;p10,9,0,2;");
        due.is("game(0, 1, 0)", x.game(0, 1, 0), 1990);
        due.is("game(0, 1, 1)", x.game(0, 1, 1), 1986);
        due.is("game(0, 1, 2)", x.game(0, 1, 2), 1982);
        due.is("game(0, 1, 3)", x.game(0, 1, 3), 1978);
        due.is("game(1, 0, 3)", x.game(1, 0, 3), 2022);
        due.is("n -1", x.game(0, 1, -1), BAD);
        due.is("n 4", x.game(0, 1, 4), BAD);
        due.is("himself", x.game(0, 0, 1), BAD);
        due.is("no such", x.game(0, 3, 1), BAD);
        x.hours(1);
        due.is("down", x.game(0, 2, 1), NOT);
        due.is("one is down", x.game(2, 0, 1), NOT);
        due.is("down, n 4", x.game(2, 0, 4), BAD);
        // strain 12 and 6; his crust is 6 less, bad news 1 more in each hour to come
        WallPatience y = Due.with("w24,1;p50,5,0,2;p60,5,0,2;");
        y.hours(2);
        y.crust(1);
        due.is("the crust, for news are worth less", y.game(0, 1, 1), 2000 + (50 - 13) - (60 - 12));
        due.is("news, and the crust then", y.game(0, 1, 2), 2000 + (50 - 20) - (60 - 20));
        // who is down is harmed no more, so the other one's second waits with his news
        WallPatience z = Due.with("w24,0;p13,6,0,9;p99,0,0,9;");
        due.is("down by the first hour", z.game(0, 1, 1), 2000 + (13 - 15) - (99 - 9));
        due.is("not yet down by it", z.game(0, 1, 3), 2000 + (13 - 25) - (99 - 27));
    }

    private static void nothingChanges() {
        WallPatience x = Due.with("w5,3;p50,3,2,8;y60,2,1,4;");
        x.hours(2);
        x.strain(0, 60);
        x.down(0);
        x.duel(0, 1);
        x.honour(0);
        x.eat(0, 8, 1);
        x.train(0, 40, 0);
        x.dusk(40);
        x.odds(0, 1, 10, 5, 0);
        x.challenge(0, 10, 5);
        x.game(0, 1, 3);
        due.is("hour", x.count(2), 2);
        due.is("dusk", x.count(3), 5);
        due.is("crusts", x.count(5), 6);
        due.is("sky", x.count(6), 1);
        due.is("acts", x.count(8), 2);
        due.is("strain", x.sitter(0, 5), 18);
        due.is("line", x.sitter(0, 1), 50);
        due.is("hunger", x.sitter(0, 2), 3);
        due.is("cold", x.sitter(0, 3), 2);
        due.is("news", x.sitter(0, 7), 0);
        due.is("sits", x.sitter(0, 10), NONE);
        due.is("draw", x.seed(1), 282475249);
    }
}
