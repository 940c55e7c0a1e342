import java.util.ArrayList;
import java.util.List;

/**
 * The boundary cases of part 3, a test for each sentence that names one. Skies from draw 1: 1 1 2 2 1 2 0 2 2 1 0 2 0 2
 * 0 2 1 1 1 1 0 1 0 2 1 0 0 0 2 1 1 2 2 1 2 0 1 1 0 0 1 ..: WIND is in 9 of the first 23 hours, in 15 of the first 40,
 * in 22 of the first 59 and in 23 of the first 60.
 */
public final class ForetoldEdgesTest {
    private static final int BAD = WallPatience.BAD, NOT = WallPatience.NOT, NONE = WallPatience.NONE;
    private static final int MIN = Integer.MIN_VALUE, MAX = Integer.MAX_VALUE;
    private static final Due due = new Due();

    public static void main(String[] args) {
        nothingChanges();
        nothingElseBeingDone();
        byTheDrawsThatCome();
        byTheNightsThatCome();
        strainBehind0To60();
        strainAtTheLine();
        downOf60();
        duelOf60();
        honourOfAll();
        honourOfOthersWhoSit();
        eatByCrusts();
        eatByCrustsWithStrain();
        eatOfLikeOnes();
        eatAndHours();
        trainLine20();
        trainLine99();
        trainHungerToNone();
        trainColdToNone();
        trainHours1To40();
        trainOfLikeOnes();
        trainNone();
        dusk1();
        dusk23();
        dusk24();
        duskAtMostOne();
        duskHours1To40();
        odds0Hours();
        oddsTenths();
        oddsInLowestTerms();
        oddsLaterOrNot();
        oddsByWindOrClear();
        challengeNone();
        challengeFirstOfLikeOnes();
        challengeGreatest();
        game0Hours();
        gameWhoIsDown();
        gameCrusts();
        gameOneThingAtATime();
        gameNews();
        beyondHour9999();
        due.end();
    }

    /** "(nothing changes)": by no call of part 3, nor by what is asked of a row. */
    private static void nothingChanges() {
        Scene scene = new Scene(x -> {
            Due.feed(x, "w9,3;p90,3,2,8;y60,2,1,4;p10,9,0,2;");
            x.wall();
            x.hours(3);
            x.crust(0);
            x.news(1, 2);
            x.image(1);
            x.sheet(0, 2, 24);
            x.film(0, 8, 0, 2, 16);
            x.feed('w');
        });
        List<Call> calls = new ArrayList<>();
        for (int one = 0; one < 2; one++) {
            for (int n : new int[] {0, 1, 60}) {
                calls.add(new Call("strain", one, n));
            }
            calls.add(new Call("down", one));
            calls.add(new Call("duel", one, 1 - one));
            calls.add(new Call("honour", one));
            calls.add(new Call("growth", one, 1));
            for (int what = 0; what < 2; what++) {
                calls.add(new Call("eat", one, 8, what));
                calls.add(new Call("train", one, 40, what));
                calls.add(new Call("train", one, 1, what + 2));
                calls.add(new Call("odds", one, 1 - one, 10, 5, what));
                calls.add(new Call("ate", one, 0, 2, 16, 8, what));
                calls.add(new Call("round", 0, 2, 0, 7, what));
                calls.add(new Call("told", 0, 2, 0, 8, what));
            }
            calls.add(new Call("challenge", one, 10, 10));
            calls.add(new Call("game", one, 1 - one, 3));
            calls.add(new Call("goesOn", 0, 2, 0, 8, 255));
            calls.add(new Call("dusk", 40));
            calls.add(new Call("dusk", 1));
        }
        calls.add(new Call("strain", 2, 60));
        calls.add(new Call("down", 2));
        for (Call c : calls) {
            long answer = c.askOf(scene.make());
            due.isTrue(c + " is not refused: " + answer, answer >= 0 || answer == NONE);
            due.isTrue(c + " changes nothing", scene.staysBehind(List.of(c)));
        }
        due.isTrue("all of them", scene.staysBehind(calls));
    }

    /** "nothing else being done": who has crusts and strain eats none. */
    private static void nothingElseBeingDone() {
        WallPatience x = Due.with("w24,9;p12,6,0,0;p12,6,0,0;p30,6,0,0;p99,0,0,0;");
        x.hours(1);
        due.is("strain", x.strain(0, 1), 12);
        due.is("down", x.down(0), 1);
        due.is("down", x.down(2), 4);
        due.is("duel", x.duel(0, 1), NONE);
        due.is("duel", x.duel(1, 0), NONE);
        due.is("honour", x.honour(0), 8);
        due.is("honour", x.honour(2), 11);
        due.is("train", x.train(0, 1, 0), 2);
        due.is("dusk", x.dusk(4), 24);
        due.is("dusk", x.dusk(3), NONE);
        x.sheet(0, 0, 1);
        x.film(0, 1, 0, 0, 0);
        due.is("film", x.ate(0, 0, 0, 0, 1, 1), 0);
        due.is("odds", x.odds(2, 0, 1, 5, 0), 1);
    }

    /** Seed 46 has wind in three hours, then rain; draw 1 has wind in two, then rain. */
    private static WallPatience seeded(int seed, String wall) {
        WallPatience x = Due.with(wall);
        x.seed(seed);
        return x;
    }

    /** "by the draws that come": each is asked of an object of its own. */
    private static void byTheDrawsThatCome() {
        String two = "w24,1;p10,0,5,0;p10,4,0,0;";
        due.is("strain by wind", seeded(46, two).strain(0, 1), 5);
        due.is("down by wind", seeded(46, two).down(0), 2);
        due.is("duel by wind", seeded(46, two).duel(0, 1), 1);
        due.is("duel without", seeded(9, two).duel(0, 1), 0);
        due.is("honour by wind", seeded(46, two).honour(0), 9);
        due.is("honour without", seeded(9, two).honour(0), 11);
        due.is("eat by wind", seeded(46, two).eat(0, 8, 0), 2);
        due.is("eat by wind, which", seeded(46, two).eat(0, 8, 1), 2);
        due.is("eat without", seeded(9, two).eat(0, 8, 0), 8);
        due.is("train by wind", seeded(46, two).train(0, 2, 0), 2);
        due.is("train without", seeded(9, two).train(0, 2, 0), 0);
        due.is("dusk by wind", seeded(46, two).dusk(2), 24);
        due.is("dusk without", seeded(9, two).dusk(1), NONE);
        for (int n = 0; n <= 3; n++) {
            String slow = "w24,0;p50,0,5,0;p60,0,0,0;";
            due.is("game by wind", seeded(46, slow).game(0, 1, n), 1990 - 5 * n);
            due.is("game by two winds", seeded(1, slow).game(0, 1, n), 1990 - 5 * Math.min(2, n));
            due.is("game without", seeded(9, slow).game(0, 1, n), 1990);
        }
        WallPatience x = seeded(46, "w24,0;p99,0,5,0;");
        x.sheet(0, 0, 4);
        Due.fill(x, 0, 0, 5, 10, 15, 15);
        due.is("ate by wind", x.ate(0, 0, 0, 0, 4, 0), 1);
        WallPatience y = seeded(46, "w24,0;p99,0,5,0;");
        y.sheet(0, 0, 4);
        y.film(0, 4, 0, 0, 0);
        due.is("film by wind: 5 and 10, 15 and 15", y.round(0, 0, 0, 2, 0), 30);
    }

    /** It is night from hour 1 on: wind and night, then rain and night. */
    private static void byTheNightsThatCome() {
        String two = "w1,0;p50,0,5,0;p60,0,0,0;";
        int[] strains = {0, 5, 15, 20};
        for (int n = 0; n <= 3; n++) {
            due.is("strain", seeded(1, two).strain(0, n), strains[n]);
            due.is("game", seeded(1, two).game(0, 1, n), 1990 - strains[n]);
        }
        WallPatience x = Due.with("w1,0;p99,0,0,0;p10,0,5,0;");
        x.hours(1);
        // 5, and 5 by night: he needs no wind
        due.is("odds", x.odds(0, 1, 1, 0, 0), 1);
        WallPatience y = Due.with("w1,0;p99,0,0,0;p99,0,0,0;p10,0,5,0;");
        y.hours(1);
        due.is("challenge", y.challenge(0, 1, 0), 2);
        WallPatience z = Due.with("w2,0;p99,0,0,0;p11,0,5,0;");
        z.hours(1);
        due.is("the last hour by day, then night", z.odds(0, 1, 2, 0, 0), 0);
        due.is("and night again", z.odds(0, 1, 3, 0, 0), 1);
    }

    /** Promise 17: "STRAIN (n 0 .. 60). BAD." */
    private static void strainBehind0To60() {
        WallPatience x = Due.with("w24,0;p99,0,1,0;p99,1,0,0;");
        due.is("behind 0", x.strain(0, 0), 0);
        due.is("behind 1", x.strain(0, 1), 1);
        due.is("behind 59", x.strain(0, 59), 22);
        due.is("behind 60", x.strain(0, 60), 23);
        for (int n = 0; n <= 60; n++) {
            due.is("behind " + n, x.strain(1, n), n);
        }
        for (int n : new int[] {-1, 61, 256, 1 << 30, MIN, MAX}) {
            due.is("strain(0, " + n + ")", x.strain(0, n), BAD);
        }
        x.hours(5);
        due.is("behind 0, now 5", x.strain(1, 0), 5);
        due.is("behind 60, now 5", x.strain(1, 60), 65);
    }

    /** Strain stays from the hour on in which he gets down; who is down has what he has. */
    private static void strainAtTheLine() {
        WallPatience x = Due.with("w24,0;p19,5,0,0;p20,5,0,0;p21,5,0,0;");
        int[][] want = {{15, 20, 20, 20}, {15, 20, 20, 20}, {15, 20, 25, 25}};
        for (int one = 0; one < 3; one++) {
            for (int n = 3; n <= 6; n++) {
                due.is("strain(" + one + ", " + n + ")", x.strain(one, n), want[one][n - 3]);
            }
        }
        x.hours(4);
        due.is("down, behind 0", x.strain(0, 0), 20);
        due.is("down, behind 60", x.strain(0, 60), 20);
    }

    /** "in how many HOURS (1: this one) he gets DOWN, of 60; 0: he is; NONE". */
    private static void downOf60() {
        WallPatience x = Due.with("w24,0;p59,1,0,0;p60,1,0,0;p61,1,0,0;p62,1,0,0;p10,9,0,2;p99,0,0,0;");
        int[] want = {59, 60, NONE, NONE, 1, NONE};
        int[] later = {58, 59, 60, NONE, 0, NONE};
        for (int one = 0; one < 6; one++) {
            due.is("down(" + one + ")", x.down(one), want[one]);
        }
        x.hours(1);
        for (int one = 0; one < 6; one++) {
            due.is("down(" + one + ") later", x.down(one), later[one]);
        }
        due.is("down(6)", x.down(6), BAD);
        due.is("down(-1)", x.down(-1), BAD);
    }

    /** "later than the other one, or not, in 60 HOURS; NONE: both in the same HOUR, or neither". */
    private static void duelOf60() {
        WallPatience x = Due.with("w24,0;p59,1,0,0;p60,1,0,0;p61,1,0,0;p62,1,0,0;p59,1,0,0;p30,1,0,0;");
        int[][] want = {{BAD, 1, 2, 3, NONE, 0}, {1, BAD, 2, 3, 1, 1}, {2, 2, BAD, NONE, 2, 2}, {3, 3, NONE, BAD, 3, 3},
            {NONE, 1, 2, 3, BAD, 4}, {0, 1, 2, 3, 4, BAD}};
        for (int one = 0; one < 6; one++) {
            for (int other = 0; other < 6; other++) {
                due.is("duel(" + one + ", " + other + ")", x.duel(one, other), want[one][other]);
            }
        }
        x.hours(1);
        due.is("61 is in 60 hours now, 62 is not", x.duel(2, 3), 3);
        x.hours(24);
        x.hours(5);
        due.is("5 is down", x.count(1), 5);
        due.is("with one who is down", x.duel(0, 5), NOT);
        due.is("one who is down", x.duel(5, 0), NOT);
        due.is("himself, who is down", x.duel(5, 5), BAD);
    }

    /** Promise 20: "HONOUR, and 10": 5 at least, 15 at most. */
    private static void honourOfAll() {
        WallPatience x = Due.with("w24,0;p10,1,0,0;p20,1,0,0;p30,1,0,0;p40,1,0,0;p50,1,0,0;p60,1,0,0;");
        for (int one = 0; one < 6; one++) {
            due.is("honour(" + one + ")", x.honour(one), 5 + 2 * one);
        }
        due.is("honour(6)", x.honour(6), BAD);
        WallPatience y = Due.with("w24,0;" + "p60,1,0,0;".repeat(6));
        for (int one = 0; one < 6; one++) {
            due.is("all at once, honour(" + one + ")", y.honour(one), 10);
        }
        WallPatience z = Due.with("w24,0;p60,1,0,0;p61,1,0,0;p62,1,0,0;");
        due.is("in the 60th hour", z.honour(0), 8);
        due.is("not in 60 hours", z.honour(1), 11);
        due.is("nor he", z.honour(2), 11);
    }

    /** "of the others who sit". */
    private static void honourOfOthersWhoSit() {
        WallPatience x = Due.with("w24,0;p10,9,0,2;p20,1,0,0;p10,9,0,2;p30,1,0,0;");
        due.is("ahead", x.honour(3), 13);
        x.hours(1);
        due.is("of one other", x.honour(3), 11);
        due.is("of one other", x.honour(1), 9);
        due.is("down", x.honour(0), NOT);
        x.hours(19);
        due.is("alone", x.honour(3), 10);
        due.is("down", x.honour(1), NOT);
        due.is("alone from the first", Due.with("w24,0;p10,9,9,9;").honour(0), 10);
    }

    /**
     * "of no more HOURS than he has CRUSTS", n 1 .. 8: by 6 each hour and line 12 he sits behind the first hour, and
     * behind each one more ahead of which he eats.
     */
    private static void eatByCrusts() {
        for (int crusts = 0; crusts <= 9; crusts++) {
            WallPatience x = Due.with("w24," + crusts + ";p12,6,0,0;");
            for (int n = 1; n <= 8; n++) {
                int meals = Math.min(crusts, n - 1);
                due.is(crusts + " crusts, eat(0, " + n + ", 0)", x.eat(0, n, 0), meals + 1);
                due.is(crusts + " crusts, eat(0, " + n + ", 1)", x.eat(0, n, 1), (1 << meals) - 1 << 1);
            }
            for (int n : new int[] {0, -1, 9, 32, 33, 256, MIN, MAX}) {
                due.is("eat(0, " + n + ", 0)", x.eat(0, n, 0), BAD);
            }
            for (int what : new int[] {-1, 2, 256, MIN, MAX}) {
                due.is("eat(0, 8, " + what + ")", x.eat(0, 8, what), BAD);
            }
        }
    }

    /** With strain 6 he needs one ahead of each: with 8 crusts all of 8 hours, with none he sits behind no hour. */
    private static void eatByCrustsWithStrain() {
        for (int crusts = 0; crusts <= 9; crusts++) {
            WallPatience x = Due.with("w24," + crusts + ";p12,6,0,0;");
            x.hours(1);
            for (int n = 1; n <= 8; n++) {
                int meals = Math.min(crusts, n);
                due.is(crusts + " crusts yet, eat(0, " + n + ", 0)", x.eat(0, n, 0), meals);
                due.is(crusts + " crusts yet, eat(0, " + n + ", 1)", x.eat(0, n, 1), (1 << meals) - 1);
            }
            due.is("the crusts stay", x.sitter(0, 6), crusts);
        }
    }

    /** "of like ones with fewest HOURS in the set, of like ones the least set (the next HOUR is bit 0)". */
    private static void eatOfLikeOnes() {
        // 5 each hour, line 20: one crust ahead of hour 2 or of hour 3 (from 0) makes two hours more, ahead of 1 one
        WallPatience x = Due.with("w24,1;p20,5,0,0;");
        due.is("hours", x.eat(0, 8, 0), 5);
        due.is("hour 2, not 3", x.eat(0, 8, 1), 4);
        due.is("of five hours", x.eat(0, 5, 1), 4);
        due.is("of four: hour 1 is enough", x.eat(0, 4, 1), 2);
        due.is("of three: none", x.eat(0, 3, 1), 0);
        // the crusts help nothing: he gets down at once
        WallPatience y = Due.with("w24,9;p10,9,0,2;");
        due.is("behind none", y.eat(0, 8, 0), 0);
        due.is("none", y.eat(0, 8, 1), 0);
        // nor are they needed
        WallPatience z = Due.with("w24,9;p99,9,0,0;");
        due.is("behind all", z.eat(0, 8, 0), 8);
        due.is("none", z.eat(0, 8, 1), 0);
    }

    /** "NOT: he is DOWN", behind BAD. */
    private static void eatAndHours() {
        WallPatience x = Due.with("w24,1;p10,9,0,2;");
        due.is("of who sits", x.eat(0, 1, 0), 0);
        x.hours(1);
        due.is("down", x.eat(0, 1, 0), NOT);
        due.is("down", x.eat(0, 8, 1), NOT);
        due.is("down, n 9", x.eat(0, 9, 1), BAD);
        due.is("down, what 2", x.eat(0, 8, 2), BAD);
    }

    private static void trains(WallPatience x, int n, int... want) {
        for (int what = 0; what < 4; what++) {
            due.is("line " + x.sitter(0, 1) + " train(0, " + n + ", " + what + ")", x.train(0, n, what), want[what]);
        }
    }

    private static void trainsNot(WallPatience x, int n) {
        trains(x, n, NONE, NONE, NONE, NONE);
    }

    /** "LINE a more (0 .. 20": a young one without hunger has 40 behind 40 hours. */
    private static void trainLine20() {
        trains(Due.with("w24,0;y41,0,0,0;"), 40, 0, 0, 0, 0);
        trains(Due.with("w24,0;y40,0,0,0;"), 40, 2, 1, 0, 0);
        trains(Due.with("w24,0;y22,0,0,0;"), 40, 38, 19, 0, 0);
        trains(Due.with("w24,0;y21,0,0,0;"), 40, 40, 20, 0, 0);
        trainsNot(Due.with("w24,0;y20,0,0,0;"), 40);
    }

    private static WallPatience worried(int line, int worry) {
        WallPatience x = Due.with("w24,0;p" + line + ",0,0," + worry + ";");
        x.news(0, 2);
        return x;
    }

    /** "99 at most together": 98 behind 14 hours of worry 7, 99 behind 11 hours of worry 9. */
    private static void trainLine99() {
        trains(worried(99, 7), 14, 0, 0, 0, 0);
        trains(worried(98, 7), 14, 2, 1, 0, 0);
        trains(worried(90, 7), 14, 18, 9, 0, 0);
        trains(worried(79, 7), 14, 40, 20, 0, 0);
        trainsNot(worried(78, 7), 14);
        trainsNot(worried(99, 9), 11);
        trainsNot(worried(98, 9), 11);
        trainsNot(worried(90, 9), 11);
        trains(worried(90, 9), 10, 2, 1, 0, 0);
        trains(worried(71, 9), 10, 40, 20, 0, 0);
        trainsNot(worried(70, 9), 10);
    }

    /** "HUNGER b less .. (none below 0)". */
    private static void trainHungerToNone() {
        trains(Due.with("w24,0;p10,9,0,0;"), 40, 45, 0, 9, 0);
        trains(Due.with("w24,0;p10,1,0,0;"), 40, 5, 0, 1, 0);
        // a young one has 1 yet when hunger is none
        trains(Due.with("w24,0;y10,9,0,0;"), 29, 85, 20, 9, 0);
        trainsNot(Due.with("w24,0;y10,9,0,0;"), 30);
        trains(Due.with("w24,0;y10,0,0,0;"), 9, 0, 0, 0, 0);
        trains(Due.with("w24,0;y10,0,0,0;"), 29, 40, 20, 0, 0);
        trainsNot(Due.with("w24,0;y10,0,0,0;"), 30);
    }

    /** "COLD c less (none below 0)": 15 hours of wind in 40. */
    private static void trainColdToNone() {
        trains(Due.with("w24,0;p10,0,9,0;"), 40, 27, 0, 0, 9);
        trains(Due.with("w24,0;p10,0,9,0;"), 1, 0, 0, 0, 0);
        // two hours of wind: cold 5 and line 11 cost less than cold 4
        trains(Due.with("w24,0;p10,0,9,0;"), 2, 14, 1, 0, 4);
        // care of 4 in 9 hours is 36: 20 is not enough, whatever cold is
        trainsNot(Due.with("w24,0;p16,9,9,9;"), 9);
        // line 17 and 20, no hunger and no cold
        trains(Due.with("w1,0;p17,9,9,9;"), 9, 40 + 45 + 27, 20, 9, 9);
    }

    /** Promise 22: n 1 .. 40, what 0 .. 3, "BAD; NOT: he is DOWN". */
    private static void trainHours1To40() {
        WallPatience x = Due.with("w24,0;p10,9,0,2;p99,0,0,0;");
        trains(x, 1, 2, 1, 0, 0);
        for (int what = 0; what < 4; what++) {
            due.is("train(1, 40, " + what + ")", x.train(1, 40, what), 0);
        }
        for (int n : new int[] {0, -1, 41, 256, MIN, MAX}) {
            due.is("train(0, " + n + ", 0)", x.train(0, n, 0), BAD);
        }
        for (int what : new int[] {-1, 4, 256, MIN, MAX}) {
            due.is("train(0, 1, " + what + ")", x.train(0, 1, what), BAD);
        }
        x.hours(1);
        due.is("down", x.train(0, 1, 0), NOT);
        due.is("down", x.train(0, 40, 3), NOT);
        due.is("down, n 41", x.train(0, 41, 0), BAD);
        due.is("down, what 4", x.train(0, 40, 4), BAD);
    }

    /** "by the least cost (2 a, 5 b and 3 c together), of like ones the least a, then the least b". */
    private static void trainOfLikeOnes() {
        // two hours of wind of three: 5 is the cost of a 1, c 1 (17 of 18) and of b 1 (16 of 17)
        trains(Due.with("w24,0;p17,5,2,0;"), 3, 5, 0, 1, 0);
        // three hours of wind of five: 15 is the cost of b 3 (15 of 16) and of c 5 (15 of 16)
        trains(Due.with("w24,0;p16,3,5,0;"), 5, 15, 0, 0, 5);
        // two hours of wind: 6 is the cost of a 3 (12 of 13) and of c 2 (8 of 10), 5 that of a 1, c 1 (10 of 11)
        trains(Due.with("w24,0;p10,1,5,0;"), 2, 5, 1, 0, 1);
    }

    /** "NONE: by none", for whatever is asked. */
    private static void trainNone() {
        trainsNot(Due.with("w24,0;m99,0,0,9;"), 13);
        trains(Due.with("w24,0;m99,0,0,9;"), 12, 0, 0, 0, 0);
        trainsNot(Due.with("w24,0;m99,0,0,9;"), 40);
    }

    /** "the greatest (1 .. 24)": 1, if the night is needed in hour 1; RAIN RAIN by seed 2. */
    private static void dusk1() {
        int[] colds = {1, 2, 5, 9};
        int[] want = {NONE, 1, 1, 1};
        for (int k = 0; k < colds.length; k++) {
            WallPatience x = Due.with("w24,0;p10,4," + colds[k] + ",0;p99,0,0,0;");
            x.seed(2);
            due.is("cold " + colds[k], x.dusk(2), want[k]);
            due.is("hour 0 is never night", x.dusk(1), NONE);
            due.is("the dusk stays", x.count(3), 24);
        }
    }

    /** 23, if the night is needed in hour 23, which has RAIN: cold 9 in 9 windy hours is 81, and 9 more. */
    private static void dusk23() {
        int[] lines = {89, 90, 91};
        int[] want = {23, 23, NONE};
        for (int k = 0; k < lines.length; k++) {
            WallPatience x = Due.with("w24,0;p" + lines[k] + ",0,9,0;p99,0,0,0;");
            x.hours(23);
            due.is("line " + lines[k], x.dusk(1), want[k]);
        }
        WallPatience y = Due.with("w24,0;p91,0,9,0;p99,0,0,0;");
        y.hours(23);
        due.is("the wind of hour 24 alone is not enough", y.dusk(2), 23);
    }

    /** 24, if no night is needed, whatever DUSK is. */
    private static void dusk24() {
        due.is("by hunger", Due.with("w1,0;p10,9,0,2;p99,0,0,0;").dusk(1), 24);
        WallPatience x = Due.with("w1,0;p82,0,9,0;p99,0,0,0;");
        // by night he gets down all the sooner, and is down whatever dusk were from now on
        x.hours(23);
        due.is("who is down", x.count(1), 1);
        due.is("is down", x.dusk(1), 24);
    }

    /** "at most one sits behind them": none, one, two. */
    private static void duskAtMostOne() {
        due.is("none", Due.with("w5,0;p10,9,0,2;p10,9,0,2;").dusk(1), 24);
        due.is("one of one", Due.with("w5,0;p99,0,0,0;").dusk(40), 24);
        due.is("one of six", Due.with("w5,0;" + "p10,9,0,2;".repeat(5) + "p99,0,0,0;").dusk(1), 24);
        due.is("two of six", Due.with("w5,0;" + "p10,9,0,2;".repeat(4) + "p99,0,0,0;".repeat(2)).dusk(40), NONE);
    }

    /** Promise 23: n 1 .. 40. "BAD; NOT: no WALL". */
    private static void duskHours1To40() {
        WallPatience x = Due.with("w24,0;p40,1,0,0;p99,0,0,0;");
        due.is("dusk(39)", x.dusk(39), NONE);
        due.is("dusk(40)", x.dusk(40), 24);
        due.is("dusk(1)", x.dusk(1), NONE);
        for (int n : new int[] {0, -1, 41, 256, MIN, MAX}) {
            due.is("dusk(" + n + ")", x.dusk(n), BAD);
            due.is("no wall, dusk(" + n + ")", new WallPatience().dusk(n), BAD);
        }
        due.is("no wall", new WallPatience().dusk(1), NOT);
        due.is("no wall", new WallPatience().dusk(40), NOT);
    }

    private static void chance(WallPatience x, int n, int p, long above, long below) {
        due.is("odds(0, 1, " + n + ", " + p + ", 0)", x.odds(0, 1, n, p, 0), above);
        due.is("odds(0, 1, " + n + ", " + p + ", 1)", x.odds(0, 1, n, p, 1), below);
    }

    /** "none is 0 by 1": in 0 hours nobody gets down. */
    private static void odds0Hours() {
        WallPatience x = Due.with("w24,0;p99,0,0,0;p10,9,9,9;");
        for (int p = 0; p <= 10; p++) {
            chance(x, 0, p, 0, 1);
            chance(x, 1, p, 1, 1);
            chance(x, 10, p, 1, 1);
        }
        for (int n : new int[] {-1, 11, 256, MIN, MAX}) {
            due.is("n " + n, x.odds(0, 1, n, 5, 0), BAD);
        }
        for (int p : new int[] {-1, 11, 256, MIN, MAX}) {
            due.is("p " + p, x.odds(0, 1, 5, p, 0), BAD);
        }
        for (int part : new int[] {-1, 2, 256, MIN, MAX}) {
            due.is("part " + part, x.odds(0, 1, 5, 5, part), BAD);
        }
    }

    /** "WIND by p tenths", p 0 .. 10, in lowest terms: the other one gets down by wind at once. */
    private static void oddsTenths() {
        WallPatience x = Due.with("w24,0;p99,0,0,0;p10,1,9,0;");
        int[] above = {0, 1, 1, 3, 2, 1, 3, 7, 4, 9, 1};
        int[] below = {1, 10, 5, 10, 5, 2, 5, 10, 5, 10, 1};
        for (int p = 0; p <= 10; p++) {
            chance(x, 1, p, above[p], below[p]);
        }
        chance(x, 9, 0, 0, 1);
        // ten hours of hunger are enough
        chance(x, 10, 0, 1, 1);
    }

    /** "Parts are told in lowest terms", far above an int: two winds of ten hours are needed. */
    private static void oddsInLowestTerms() {
        WallPatience x = Due.with("w24,0;p99,0,0,0;p10,0,9,0;");
        // one less 11 of 1024
        chance(x, 10, 5, 1013, 1024);
        // one less 9^10 and 10 times 9^9, of 10^10
        chance(x, 10, 1, 10000000000L - 7360989291L, 10000000000L);
        // one less 1 and 10 times 9, of 10^10
        chance(x, 10, 9, 9999999909L, 10000000000L);
        // one less 4^10 and 10 times 4^9, of 5^10: 9765625 less 1048576 less 2621440
        chance(x, 10, 2, 6095609, 9765625);
        // one less 1 and 10 times 4, of 5^10
        chance(x, 10, 8, 9765584, 9765625);
        chance(x, 2, 5, 1, 4);
        chance(x, 2, 10, 1, 1);
        chance(x, 2, 0, 0, 1);
    }

    /** "in these the other one gets DOWN, and he later, or not". */
    private static void oddsLaterOrNot() {
        // 10 each hour: down in hours 1, 2, 2 and 3 (from 1)
        WallPatience x = Due.with("w24,0;p20,9,0,2;p10,9,0,2;p20,9,0,2;p30,9,0,2;");
        due.is("he later", x.odds(0, 1, 2, 5, 0), 1);
        due.is("he not yet", x.odds(0, 1, 1, 5, 0), 1);
        due.is("in the same hour", x.odds(0, 2, 10, 5, 0), 0);
        due.is("he sooner", x.odds(0, 3, 10, 5, 0), 0);
        due.is("the other one not yet", x.odds(3, 0, 1, 5, 0), 0);
        due.is("the other one then", x.odds(3, 0, 2, 5, 0), 1);
        due.is("of none", x.odds(0, 3, 10, 5, 1), 1);
        x.hours(1);
        due.is("the other one is down", x.odds(0, 1, 1, 5, 0), NOT);
        due.is("one is down", x.odds(1, 0, 1, 5, 1), NOT);
        due.is("himself, who is down", x.odds(1, 1, 1, 5, 1), BAD);
        due.is("himself", x.odds(0, 0, 1, 5, 1), BAD);
    }

    /** "has WIND by p tenths, else it is CLEAR": by no draws; NIGHT is as it is. */
    private static void oddsByWindOrClear() {
        WallPatience x = Due.with("w24,0;p99,0,0,0;p10,1,9,0;");
        // the draws have WIND in the next hour, and RAIN in that behind it
        chance(x, 1, 0, 0, 1);
        x.hours(2);
        x.heir(1);
        chance(x, 1, 10, 1, 1);
        WallPatience y = Due.with("w1,0;p99,0,0,0;p10,1,9,0;");
        chance(y, 1, 0, 0, 1);
        chance(y, 2, 0, 1, 1);
    }

    /** "NONE: there is none." */
    private static void challengeNone() {
        WallPatience x = Due.with("w24,0;p99,0,0,0;p10,9,0,2;p10,9,0,2;");
        due.is("two others", x.challenge(0, 1, 0), 1);
        x.hours(1);
        due.is("none who sits", x.challenge(0, 1, 0), NONE);
        due.is("down", x.challenge(1, 1, 0), NOT);
        due.is("down, n 11", x.challenge(1, 11, 0), BAD);
        due.is("down, p 11", x.challenge(1, 1, 11), BAD);
        due.is("n -1, and none", x.challenge(0, -1, 0), BAD);
        x.heir(2);
        due.is("the heir", x.challenge(0, 1, 0), 2);
        due.is("alone", Due.with("w24,0;p99,0,0,0;").challenge(0, 10, 10), NONE);
    }

    /** "by the greatest ODDS, the first one"; odds of none are like, too. */
    private static void challengeFirstOfLikeOnes() {
        WallPatience x = Due.with("w24,0;" + "p99,0,0,0;".repeat(6));
        for (int one = 0; one < 6; one++) {
            for (int n = 0; n <= 10; n += 5) {
                due.is("challenge(" + one + ")", x.challenge(one, n, n), one == 0 ? 1 : 0);
            }
        }
        WallPatience y = Due.with("w24,0;p99,0,0,0;p99,0,0,0;p10,0,9,0;p10,0,9,0;p10,0,9,0;p99,0,0,0;");
        due.is("of three like ones", y.challenge(5, 10, 5), 2);
        due.is("of two like ones", y.challenge(2, 10, 5), 0);
    }

    private static void challengeGreatest() {
        WallPatience x = Due.with("w24,0;p99,0,0,0;p20,0,9,0;p19,0,9,0;p18,0,9,0;p10,1,9,0;p10,1,9,0;");
        due.is("one wind is enough", x.challenge(0, 1, 1), 4);
        due.is("two winds", x.challenge(0, 10, 10), 1);
        x.hours(1);
        // 4 and 5 are down; 1 wants 11 more, 2 wants 10, 3 wants 9
        due.is("one wind more", x.challenge(0, 1, 1), 3);
        due.is("n 10, p 0: none", x.challenge(0, 10, 0), 1);
        for (int n : new int[] {-1, 11, 256, MIN, MAX}) {
            due.is("n " + n, x.challenge(0, n, 5), BAD);
            due.is("p " + n, x.challenge(0, 5, n), BAD);
        }
        due.is("challenge(6, 5, 5)", x.challenge(6, 5, 5), BAD);
    }

    /** Promise 26: n 0 .. 3; in 0 hours EDGE is as it is. */
    private static void game0Hours() {
        WallPatience x = Due.with("w24,0;p50,0,0,0;p60,0,0,0;p10,9,0,2;");
        for (int n = 0; n <= 3; n++) {
            due.is("game(0, 1, " + n + ")", x.game(0, 1, n), 1990);
            due.is("game(1, 0, " + n + ")", x.game(1, 0, n), 2010);
            due.is("himself", x.game(1, 1, n), BAD);
        }
        for (int n : new int[] {-1, 4, 256, MIN, MAX}) {
            due.is("game(0, 1, " + n + ")", x.game(0, 1, n), BAD);
        }
        x.hours(1);
        for (int n = 0; n <= 3; n++) {
            due.is("down", x.game(0, 2, n), NOT);
            due.is("one is down", x.game(2, 0, n), NOT);
            due.is("himself, who is down", x.game(2, 2, n), BAD);
        }
        due.is("down, n 4", x.game(2, 0, 4), BAD);
    }

    /** Strain of who gets down stays, in a game, too: line 10 and strain 18 against line 99. */
    private static void gameWhoIsDown() {
        WallPatience x = Due.with("w24,9;p10,9,0,0;p99,0,0,0;");
        x.hours(1);
        for (int k = 0; k < 9; k++) {
            x.crust(1);
        }
        // he has nine crusts yet: 9 less 6 more 9 is 12, and he is down then; with none it would be 18
        int[] want = {1902, 2000 + 10 - 12 - 99, 2000 + 10 - 12 - 99, 2000 + 10 - 12 - 99};
        for (int n = 0; n <= 3; n++) {
            due.is("game(0, 1, " + n + ")", x.game(0, 1, n), want[n]);
            due.is("game(1, 0, " + n + ")", x.game(1, 0, n), 4000 - want[n]);
        }
        // he gets down in the first hour by 10, by bad news by 11; behind it nobody can harm or help him
        WallPatience y = Due.with("w24,1;p10,9,0,2;p99,0,0,0;");
        for (int n = 1; n <= 3; n++) {
            due.is("game(0, 1, " + n + ")", y.game(0, 1, n), 1900);
            due.is("game(1, 0, " + n + ")", y.game(1, 0, n), 2100);
        }
    }

    /** "lets his own one eat a CRUST (who sits, and has one)": 6 less, 0 at least. */
    private static void gameCrusts() {
        WallPatience x = Due.with("w24,1;p50,2,0,0;p99,0,0,0;");
        int[] want = {1951, 1949, 1949, 1949};
        WallPatience y = Due.with("w24,1;p50,9,0,0;p99,0,0,0;");
        int[] wantOf9 = {1951, 1942, 1939, 1930};
        WallPatience z = Due.with("w24,0;p50,9,0,0;p99,0,0,0;");
        int[] wantOfNone = {1951, 1942, 1933, 1924};
        for (int n = 0; n <= 3; n++) {
            due.is("2 each hour, game(0, 1, " + n + ")", x.game(0, 1, n), want[n]);
            due.is("9 each hour, game(0, 1, " + n + ")", y.game(0, 1, n), wantOf9[n]);
            due.is("none, game(0, 1, " + n + ")", z.game(0, 1, n), wantOfNone[n]);
            due.is("none, game(1, 0, " + n + ")", z.game(1, 0, n), 4000 - wantOfNone[n]);
        }
        // two crusts and strain 9 each hour: 9, 12, 15
        WallPatience two = Due.with("w24,2;p50,9,0,0;p99,0,0,0;");
        due.is("two crusts", two.game(0, 1, 3), 2000 + 50 - 15 - 99);
    }

    /** One thing ahead of an hour: a crust is worth 6 at once, bad news 3 in each hour to come. */
    private static void gameOneThingAtATime() {
        WallPatience x = Due.with("w24,1;p50,6,0,0;p50,6,0,6;");
        x.hours(1);
        // strains 6 and 9; the other one's second lets him eat, he has no news to bring that worry
        due.is("his crust", x.game(0, 1, 1), 2000 + (50 - 6) - (50 - 12));
        // one's second: news ahead of the first hour, his crust ahead of the second one: 9 and twice 12 less 6
        due.is("news, then his crust", x.game(0, 1, 2), 2000 + (50 - 12) - (50 - 27));
        WallPatience y = Due.with("w24,0;p50,0,0,0;p50,0,0,6;");
        y.crust(0);
        due.is("news alone", y.game(0, 1, 2), 2000 + 50 - (50 - 12));
    }

    /** "brings bad NEWS to the adversary (who sits)": good ones are gone, bad ones stay bad. */
    private static void gameNews() {
        WallPatience x = Due.with("w24,0;p50,0,0,9;p50,0,0,9;");
        x.news(0, 1);
        x.news(1, 1);
        for (int n = 0; n <= 3; n++) {
            due.is("both are told at once", x.game(0, 1, n), 2000);
        }
        WallPatience y = Due.with("w24,0;p50,0,0,9;p50,0,0,0;");
        y.news(0, 1);
        for (int n = 0; n <= 3; n++) {
            due.is("9 each hour", y.game(0, 1, n), 2000 - 9 * n);
            due.is("9 each hour of the other", y.game(1, 0, n), 2000 + 9 * n);
        }
        y.news(0, 2);
        due.is("bad ones stay", y.game(0, 1, 3), 2000 - 27);
    }

    /** Hours go on behind 9999 when they are foretold. */
    private static void beyondHour9999() {
        WallPatience x = Due.with("w15,0;p99,0,0,0;p99,0,0,0;");
        for (int k = 0; k < 416; k++) {
            x.hours(24);
        }
        x.hours(15);
        x.sheet(0, 0, 24);
        due.is("hour 9999", x.count(2), 9999);
        due.is("strain", x.strain(0, 60), 0);
        due.is("down", x.down(0), NONE);
        due.is("duel", x.duel(0, 1), NONE);
        due.is("honour", x.honour(0), 10);
        due.is("eat", x.eat(0, 8, 0), 8);
        due.is("train", x.train(0, 40, 0), 0);
        due.is("dusk", x.dusk(40), NONE);
        due.is("odds", x.odds(0, 1, 10, 5, 1), 1);
        due.is("challenge", x.challenge(0, 10, 5), 1);
        due.is("game", x.game(0, 1, 3), 2000);
        due.is("film", x.film(0, 24, 0, 0, 0), 24);
        due.is("ate", x.ate(0, 0, 0, 0, 8, 0), 1);
    }
}
