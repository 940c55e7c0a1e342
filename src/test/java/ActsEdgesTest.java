/** The boundary cases of part 2, a test for each sentence that names one: hours, acts, undoing, the draw, images. */
public final class ActsEdgesTest {
    private static final int BAD = WallPatience.BAD, NOT = WallPatience.NOT, FULL = WallPatience.FULL;
    private static final int NONE = WallPatience.NONE;
    private static final int MIN = Integer.MIN_VALUE, MAX = Integer.MAX_VALUE;
    private static final Due due = new Due();

    public static void main(String[] args) {
        hours1To24();
        hoursWithoutAWall();
        hour9999();
        from9975();
        drawAtFirst();
        drawOf10000Hours();
        drawOfTheGreatest();
        skyIsTheRestBy3();
        asMuchAsLineOrMore();
        allAtOnce();
        strainOfWhoIsDown();
        hoursWhenNobodySits();
        crust6Less();
        crustsAreEaten();
        crustsToldNone();
        news0To2();
        pride9AtMost();
        cloakGivenAndTaken();
        cloaksOfAll();
        heirLine10AtLeast();
        heirIsNew();
        undoNone();
        undoTwenty();
        undoTwentyOne();
        undoOfEveryAct();
        undoOfHoursOneByOne();
        undoBehindUndo();
        refusedIsNoAct();
        seedBounds();
        seedIsNoAct();
        image0And1();
        restoreNone();
        restoreForgetsActs();
        due.end();
    }

    /** Promise 7: "n HOURS (1 .. 24), an ACT each: how many sit. BAD". */
    private static void hours1To24() {
        for (int n = 1; n <= 24; n++) {
            WallPatience x = Due.with("w24,0;p99,0,0,0;p24,1,0,0;");
            due.is("hours(" + n + ")", x.hours(n), n < 24 ? 2 : 1);
            due.is("hour", x.count(2), n);
            due.is("acts", x.count(8), Math.min(20, n));
        }
        WallPatience x = Due.with("w24,0;p99,0,0,0;");
        x.hours(1);
        for (int n : new int[] {0, -1, 25, 256, 257, 65537, 1 << 30, MIN, MIN + 1, MAX, MAX - 1}) {
            due.is("hours(" + n + ")", x.hours(n), BAD);
            due.is("hour", x.count(2), 1);
            due.is("acts", x.count(8), 1);
        }
    }

    /** "BAD; NOT: no WALL". */
    private static void hoursWithoutAWall() {
        WallPatience x = new WallPatience();
        due.is("hours(1)", x.hours(1), NOT);
        due.is("hours(24)", x.hours(24), NOT);
        due.is("hours(0)", x.hours(0), BAD);
        due.is("hours(25)", x.hours(25), BAD);
        due.is("the draw stays", x.seed(1), 1);
        due.is("hour", x.count(2), 0);
    }

    private static WallPatience at9984() {
        WallPatience x = Due.with("w15,3;p99,0,9,0;");
        for (int k = 0; k < 9; k++) {
            x.praise(0);
        }
        x.cloak(0, 1);
        for (int k = 0; k < 416; k++) {
            x.hours(24);
        }
        return x;
    }

    /** "FULL: HOUR would be above 9999"; behind it all is as it was. */
    private static void hour9999() {
        WallPatience x = at9984();
        int draw = x.seed(5);
        x.seed(draw);
        due.is("hour 9984", x.count(2), 9984);
        due.is("hours(16)", x.hours(16), FULL);
        due.is("hours(24)", x.hours(24), FULL);
        due.is("hours(25)", x.hours(25), BAD);
        due.is("hours(MAX)", x.hours(MAX), BAD);
        due.is("hour 9984", x.count(2), 9984);
        due.is("acts", x.count(8), 20);
        due.is("the draw", x.seed(draw), draw);
        due.is("day: 9984 is 416 days", x.count(7), 0);
        due.is("hours(15)", x.hours(15), 1);
        due.is("hour 9999", x.count(2), 9999);
        due.is("its rest by 24 is 15: night", x.count(7), 1);
        draw = x.seed(5);
        x.seed(draw);
        int sky = x.count(6);
        due.is("hours(1)", x.hours(1), FULL);
        due.is("hours(0)", x.hours(0), BAD);
        due.is("hour 9999 yet", x.count(2), 9999);
        due.is("the sky", x.count(6), sky);
        due.is("the draw", x.seed(draw), draw);
        due.is("foretold beyond it", x.strain(0, 60), 0);
        due.is("nobody gets down", x.down(0), NONE);
        due.is("acts", x.count(8), 20);
        due.is("undo", x.undo(), 19);
        due.is("hour 9998", x.count(2), 9998);
        due.is("hours(2)", x.hours(2), FULL);
        due.is("hours(1)", x.hours(1), 1);
        due.is("the same draw", x.seed(1), draw);
    }

    /** 24 hours from 9975 on are the last ones that can be taken at once, from 9976 on they are not. */
    private static void from9975() {
        WallPatience x = Due.with("w24,0;p99,0,0,0;");
        for (int k = 0; k < 415; k++) {
            x.hours(24);
        }
        x.hours(16);
        due.is("hour 9976", x.count(2), 9976);
        due.is("hours(24)", x.hours(24), FULL);
        due.is("undo", x.undo(), 19);
        due.is("hours(24)", x.hours(24), 1);
        due.is("hour 9999", x.count(2), 9999);
        due.is("hours(1)", x.hours(1), FULL);
        Due.feed(x, "w1,0;p99,0,0,0;");
        due.is("a new wall", x.wall(), 1);
        due.is("its hours", x.hours(1), 1);
        due.is("hour 1", x.count(2), 1);
    }

    /** "THE DRAW (1 at first)". */
    private static void drawAtFirst() {
        due.is("at first", new WallPatience().seed(9), 1);
        due.is("with a wall", Due.with("w1,0;p10,0,0,0;").seed(9), 1);
    }

    /** 1043618065 is the 10000th of these draws from 1 on, as it is told everywhere. */
    private static void drawOf10000Hours() {
        WallPatience x = Due.with("w24,0;p99,0,0,0;");
        for (int k = 0; k < 416; k++) {
            x.hours(24);
        }
        x.hours(15);
        Due.feed(x, "w24,0;p99,0,0,0;");
        x.wall();
        x.hours(1);
        due.is("10000 hours", x.seed(1), 1043618065);
    }

    /** 16807 times 2147483646 is far above an int. */
    private static void drawOfTheGreatest() {
        WallPatience x = Due.with("w24,0;p99,0,0,0;");
        x.seed(2147483646);
        x.hours(1);
        due.is("2147483647 less 16807", x.seed(2147483645), 2147466840);
        x.hours(1);
        due.is("2147483647 less twice 16807", x.seed(127774), 2147450033);
        x.hours(1);
        // 127774 times 16807 is 2147497618, which is 13971 more than 2147483647
        due.is("just beyond 2147483647", x.seed(127773), 13971);
        x.hours(1);
        // 2147497618 less 16807
        due.is("just below it", x.seed(1), 2147480811);
    }

    /** "the SKY of that HOUR is the rest of it by 3". */
    private static void skyIsTheRestBy3() {
        WallPatience x = Due.with("w24,0;p99,0,9,0;");
        due.is("before any", x.count(6), 0);
        int[] seeds = {1, 2, 3};
        // 16807, 33614 and 50421 by 3
        int[] skies = {1, 2, 0};
        int[] strains = {9, 9, 9};
        for (int k = 0; k < 3; k++) {
            x.seed(seeds[k]);
            x.hours(1);
            due.is("sky by " + seeds[k], x.count(6), skies[k]);
            due.is("strain by " + seeds[k], x.sitter(0, 5), strains[k]);
        }
    }

    /** "each who sits and has as much STRAIN as LINE, or more, gets DOWN in this HOUR". */
    private static void asMuchAsLineOrMore() {
        WallPatience x = Due.with("w24,0;p19,5,0,0;p20,5,0,0;p21,5,0,0;");
        due.is("behind 3 hours", x.hours(3), 3);
        due.is("behind 4 hours", x.hours(1), 1);
        due.is("more than line", x.sitter(0, 10), 3);
        due.is("as much as line", x.sitter(1, 10), 3);
        due.is("one less", x.sitter(2, 10), NONE);
        due.is("his strain", x.sitter(2, 5), 20);
        due.is("behind 5 hours", x.hours(1), 0);
        due.is("in hour 4", x.sitter(2, 10), 4);
    }

    /** "all at once". */
    private static void allAtOnce() {
        WallPatience x = Due.with("w24,0;" + "p10,5,0,0;".repeat(6));
        due.is("behind 1 hour", x.hours(1), 6);
        due.is("behind 2 hours", x.hours(1), 0);
        for (int one = 0; one < 6; one++) {
            due.is("hour of " + one, x.sitter(one, 10), 1);
        }
        due.is("one act", x.undo(), 1);
        due.is("all sit again", x.count(1), 6);
    }

    /** "STRAIN of who is DOWN stays"; 99 and the greatest growth, 45, are the most that strain can be. */
    private static void strainOfWhoIsDown() {
        WallPatience x = Due.with("w1,0;p10,9,0,2;m99,9,9,9;");
        x.hours(1);
        due.is("10", x.sitter(0, 5), 10);
        x.news(1, 2);
        x.hours(24);
        due.is("10 yet", x.sitter(0, 5), 10);
        int strain = x.sitter(1, 5);
        due.isTrue("at least his line", strain >= 99 && strain <= 98 + 45);
        x.hours(24);
        due.is("stays", x.sitter(1, 5), strain);
    }

    /** Hours pass, and the draw goes on, when nobody sits. */
    private static void hoursWhenNobodySits() {
        WallPatience x = Due.with("w24,0;p10,9,0,2;");
        due.is("hours(1)", x.hours(1), 0);
        due.is("hours(2)", x.hours(2), 0);
        due.is("hour", x.count(2), 3);
        due.is("acts", x.count(8), 3);
        due.is("the draw", x.seed(1), 1622650073);
        due.is("the sky", x.count(6), 2);
        due.is("undo", x.undo(), 2);
    }

    /** "eats a CRUST of his (STRAIN 6 less, 0 at least)". */
    private static void crust6Less() {
        WallPatience x = Due.with("w24,2;p99,5,0,0;p99,6,0,0;p99,7,0,0;p99,0,0,0;p99,9,0,6;");
        x.hours(1);
        int[] first = {0, 0, 1, 0, 6};
        int[] second = {0, 0, 0, 0, 0};
        for (int one = 0; one < 5; one++) {
            due.is("crust(" + one + ")", x.crust(one), first[one]);
            due.is("strain of " + one, x.sitter(one, 5), first[one]);
            due.is("crusts of " + one, x.sitter(one, 6), 1);
            due.is("crust(" + one + ") again", x.crust(one), second[one]);
            due.is("crusts of " + one, x.sitter(one, 6), 0);
        }
    }

    /** "NOT: he is DOWN, has none": all nine are eaten, the tenth is not there. */
    private static void crustsAreEaten() {
        WallPatience x = Due.with("w24,9;p99,0,0,0;p10,9,0,2;");
        for (int left = 8; left >= 0; left--) {
            due.is("crust", x.crust(0), 0);
            due.is("left", x.sitter(0, 6), left);
            due.is("all", x.count(5), left + 9);
        }
        due.is("none", x.crust(0), NOT);
        due.is("none left", x.sitter(0, 6), 0);
        due.is("the other one's stay", x.count(5), 9);
        due.is("as told", x.count(4), 9);
        due.is("nine acts", x.count(8), 9);
        x.hours(1);
        due.is("down, has nine", x.crust(1), NOT);
        due.is("has nine yet", x.sitter(1, 6), 9);
        due.is("all, his too", x.count(5), 9);
    }

    private static void crustsToldNone() {
        WallPatience x = Due.with("w24,0;p99,9,0,0;");
        x.hours(1);
        due.is("none were told", x.crust(0), NOT);
        due.is("strain", x.sitter(0, 5), 9);
        due.is("the hour alone", x.count(8), 1);
    }

    /** Promise 9: "NEWS (0 .. 2) of his are v: what they were. BAD; NOT: he is DOWN." */
    private static void news0To2() {
        WallPatience x = Due.with("w24,0;p99,0,0,9;p10,9,0,2;");
        int was = 0;
        for (int v : new int[] {0, 1, 1, 2, 2, 0, 2, 1, 0}) {
            due.is("news(0, " + v + ")", x.news(0, v), was);
            due.is("sitter(0, 7)", x.sitter(0, 7), v);
            due.is("care", x.growth(0, 0), v == 0 ? 4 : v == 1 ? 0 : 9);
            was = v;
        }
        due.is("nine acts", x.count(8), 9);
        for (int v : new int[] {-1, 3, 256, 258, MIN, MAX}) {
            due.is("news(0, " + v + ")", x.news(0, v), BAD);
        }
        x.hours(1);
        for (int v = 0; v <= 2; v++) {
            due.is("down, " + v, x.news(1, v), NOT);
        }
        due.is("down, 3", x.news(1, 3), BAD);
        due.is("down, -1", x.news(1, -1), BAD);
        due.is("no news of his", x.sitter(1, 7), 0);
    }

    /** "PRIDE of one who sits is 1 more (9 at most)". */
    private static void pride9AtMost() {
        WallPatience x = Due.with("w24,0;p99,0,0,0;p10,9,0,2;");
        for (int k = 1; k <= 9; k++) {
            due.is("praise", x.praise(0), k);
            due.is("sitter(0, 8)", x.sitter(0, 8), k);
        }
        due.is("praise", x.praise(0), NOT);
        due.is("praise", x.praise(0), NOT);
        due.is("9 yet", x.sitter(0, 8), 9);
        due.is("acts", x.count(8), 9);
        due.is("undo", x.undo(), 8);
        due.is("8", x.sitter(0, 8), 8);
        due.is("praise", x.praise(0), 9);
        x.hours(1);
        due.is("down", x.praise(1), NOT);
        due.is("his pride", x.sitter(1, 8), 0);
    }

    /** "A CLOAK is given (1), taken (0)"; "NOT: he is DOWN, it is so". */
    private static void cloakGivenAndTaken() {
        WallPatience x = Due.with("w24,0;p99,0,0,0;p10,9,0,2;p10,9,0,2;");
        due.is("it is so: none", x.cloak(0, 0), NOT);
        due.is("given", x.cloak(0, 1), 1);
        due.is("it is so: one", x.cloak(0, 1), NOT);
        due.is("has it yet", x.sitter(0, 9), 1);
        due.is("taken", x.cloak(0, 0), 0);
        due.is("has none", x.sitter(0, 9), 0);
        due.is("two acts", x.count(8), 2);
        for (int is : new int[] {-1, 2, 256, 257, MIN, MAX}) {
            due.is("cloak(0, " + is + ")", x.cloak(0, is), BAD);
        }
        due.is("given", x.cloak(1, 1), 1);
        x.hours(1);
        due.is("down: can't be taken", x.cloak(1, 0), NOT);
        due.is("down, it is so", x.cloak(1, 1), NOT);
        due.is("down: can't be given", x.cloak(2, 1), NOT);
        due.is("down, 2", x.cloak(2, 2), BAD);
        due.is("his cloak", x.sitter(1, 9), 1);
    }

    /** "how many have one": none to all six. */
    private static void cloaksOfAll() {
        WallPatience x = Due.with("w24,0;" + "p10,0,0,0;".repeat(6));
        for (int one = 0; one < 6; one++) {
            due.is("given", x.cloak(one, 1), one + 1);
        }
        for (int one = 0; one < 6; one++) {
            due.is("taken", x.cloak(one, 0), 5 - one);
        }
    }

    /** "LINE 2 less (10 at least)". */
    private static void heirLine10AtLeast() {
        int[] lines = {10, 11, 12, 13, 14, 99};
        int[] heirs = {10, 10, 10, 11, 12, 97};
        for (int k = 0; k < lines.length; k++) {
            WallPatience x = Due.with("w24,0;m" + lines[k] + ",9,0,9;");
            due.is("sits", x.heir(0), NOT);
            due.is("line stays", x.sitter(0, 1), lines[k]);
            x.hours(24);
            due.is("heir of " + lines[k], x.heir(0), heirs[k]);
            due.is("line of the heir", x.sitter(0, 1), heirs[k]);
            due.is("the heir sits", x.heir(0), NOT);
            x.hours(24);
            due.is("heir's heir", x.heir(0), Math.max(10, heirs[k] - 2));
            x.undo();
            due.is("line again", x.sitter(0, 1), heirs[k]);
        }
    }

    /** "STRAIN 0, PRIDE 0, no NEWS, no CLOAK, CRUSTS as told"; the rest is as it was. */
    private static void heirIsNew() {
        WallPatience x = Due.with("w24,9;s40,9,8,7;p99,0,0,0;");
        x.crust(0);
        x.crust(0);
        x.news(0, 1);
        x.praise(0);
        x.cloak(0, 1);
        x.cloak(1, 1);
        x.hours(12);
        int[] gone = {5, 40, 9, 8, 7, -1, 7, 1, 1, 1, -1};
        int[] heir = {5, 38, 9, 8, 7, 0, 9, 0, 0, 0, NONE};
        for (int what = 0; what <= 10; what++) {
            if (gone[what] >= 0) {
                due.is("down " + what, x.sitter(0, what), gone[what]);
            }
        }
        due.is("one sits", x.count(1), 1);
        due.is("crusts", x.count(5), 16);
        due.is("heir", x.heir(0), 38);
        for (int what = 0; what <= 10; what++) {
            due.is("heir " + what, x.sitter(0, what), heir[what]);
        }
        due.is("two sit", x.count(1), 2);
        due.is("crusts", x.count(5), 18);
        due.is("one cloak, and taken", x.cloak(1, 0), 0);
    }

    /** Promise 13: "NONE: none." */
    private static void undoNone() {
        WallPatience x = new WallPatience();
        due.is("without a wall", x.undo(), NONE);
        Due.feed(x, "w24,0;p99,0,0,0;");
        x.wall();
        due.is("with a wall", x.undo(), NONE);
        x.news(0, 1);
        due.is("one", x.undo(), 0);
        due.is("none then", x.undo(), NONE);
        due.is("none again", x.undo(), NONE);
        due.is("count(8)", x.count(8), 0);
    }

    /** "the latest 20 can be undone, the latest first": 20 acts, and all can be. */
    private static void undoTwenty() {
        WallPatience x = Due.with("w24,0;p99,0,0,0;");
        for (int k = 1; k <= 20; k++) {
            x.news(0, k % 3);
            due.is("can be undone", x.count(8), k);
        }
        for (int left = 19; left >= 0; left--) {
            due.is("undo", x.undo(), left);
            due.is("news", x.sitter(0, 7), left % 3);
        }
        due.is("none", x.undo(), NONE);
    }

    /** The first of 21 acts can't be undone, nor the first three of 23. */
    private static void undoTwentyOne() {
        for (int acts = 21; acts <= 41; acts += 2) {
            WallPatience x = Due.with("w24,0;p99,0,0,0;");
            for (int k = 1; k <= acts; k++) {
                x.news(0, k % 3);
            }
            due.is("20 can be undone", x.count(8), 20);
            for (int left = 19; left >= 0; left--) {
                due.is("undo", x.undo(), left);
            }
            due.is("none", x.undo(), NONE);
            due.is("news of act " + (acts - 20), x.sitter(0, 7), (acts - 20) % 3);
        }
    }

    /** "THE DRAW, too, is as ahead of it": each act, and a seed behind it, are taken back whole. */
    private static void undoOfEveryAct() {
        Scene before = new Scene(ActsEdgesTest::past);
        Call[] acts = {new Call("hours", 1), new Call("crust", 0), new Call("news", 0, 2), new Call("news", 0, 0),
            new Call("praise", 0), new Call("cloak", 0, 1), new Call("cloak", 2, 0), new Call("heir", 1)};
        for (Call act : acts) {
            Scene undone = new Scene(x -> {
                past(x);
                due.isTrue(act + " is an act", act.askOf(x) >= 0);
                due.is("one more", x.count(8), 8);
                x.seed(77);
                due.is("undo", x.undo(), 7);
            });
            due.isTrue(act + " undone", undone.isLike(before));
            Scene done = new Scene(x -> {
                past(x);
                act.askOf(x);
            });
            due.isTrue(act + " done", !done.isLike(before));
        }
    }

    /** Seven acts; 0 and 2 sit, 1 is down; 2 has a cloak. */
    private static void past(WallPatience x) {
        Due.feed(x, "w20,3;p99,1,2,4;h12,6,2,6;s80,0,3,2;");
        x.wall();
        x.hours(2);
        x.news(0, 1);
        x.praise(0);
        x.cloak(2, 1);
        x.hours(2);
    }

    /** "an ACT each": of three hours at once the last one alone is undone. */
    private static void undoOfHoursOneByOne() {
        WallPatience x = Due.with("w24,0;p99,5,0,0;");
        x.hours(3);
        for (int left = 2; left >= 0; left--) {
            due.is("undo", x.undo(), left);
            due.is("hour", x.count(2), left);
            due.is("strain", x.sitter(0, 5), 5 * left);
        }
        due.is("before any hour", x.count(6), 0);
        due.is("the draw", x.seed(1), 1);
        x.hours(24);
        for (int left = 19; left >= 0; left--) {
            due.is("undo", x.undo(), left);
        }
        due.is("hour 4", x.count(2), 4);
        due.is("none", x.undo(), NONE);
        // five skies from draw 1: 1 1 2 2
        due.is("sky of hour 3", x.count(6), 2);
    }

    /** What is undone makes room: acts behind it are the latest ones. */
    private static void undoBehindUndo() {
        WallPatience x = Due.with("w24,0;p99,1,0,0;");
        x.hours(24);
        for (int k = 0; k < 5; k++) {
            x.undo();
        }
        due.is("15 left", x.count(8), 15);
        due.is("hour 19", x.count(2), 19);
        for (int k = 0; k < 5; k++) {
            x.praise(0);
        }
        due.is("20", x.count(8), 20);
        x.praise(0);
        due.is("20 yet", x.count(8), 20);
        for (int pride = 5; pride >= 0; pride--) {
            x.undo();
            due.is("pride", x.sitter(0, 8), pride);
        }
        due.is("hour 19", x.count(2), 19);
        for (int left = 13; left >= 0; left--) {
            due.is("undo", x.undo(), left);
        }
        due.is("hour 5", x.count(2), 5);
        due.is("none", x.undo(), NONE);
    }

    /** A refused act can't be undone. */
    private static void refusedIsNoAct() {
        WallPatience x = Due.with("w24,0;p99,0,0,0;");
        x.news(0, 2);
        x.crust(0);
        x.cloak(0, 0);
        x.heir(0);
        x.hours(25);
        x.praise(1);
        x.seed(0);
        x.restore(0);
        due.is("one act", x.count(8), 1);
        due.is("undo", x.undo(), 0);
        due.is("no news", x.sitter(0, 7), 0);
    }

    /** Promise 14: "v (1 .. 2147483646)". */
    private static void seedBounds() {
        WallPatience x = new WallPatience();
        for (int v : new int[] {0, -1, MAX, MIN, MIN + 1, -2147483646}) {
            due.is("seed(" + v + ")", x.seed(v), BAD);
        }
        due.is("seed(2147483646)", x.seed(2147483646), 1);
        due.is("seed(MAX)", x.seed(MAX), BAD);
        due.is("seed(1)", x.seed(1), 2147483646);
        due.is("seed(0)", x.seed(0), BAD);
        due.is("seed(2)", x.seed(2), 1);
    }

    /** "no ACT". */
    private static void seedIsNoAct() {
        WallPatience x = Due.with("w24,0;p99,0,0,0;");
        x.seed(5);
        due.is("no act", x.count(8), 0);
        due.is("none", x.undo(), NONE);
        due.is("the draw stays", x.seed(6), 5);
        Due.feed(x, "w24,0;p99,0,0,0;");
        x.wall();
        due.is("behind a wall, too", x.seed(7), 6);
    }

    /** Promise 15: "an IMAGE (0, 1)"; each is kept by itself, and anew. */
    private static void image0And1() {
        WallPatience x = new WallPatience();
        for (int k : new int[] {-1, 2, 256, MIN, MAX}) {
            due.is("no wall, image(" + k + ")", x.image(k), BAD);
        }
        due.is("no wall, image(0)", x.image(0), NOT);
        due.is("no wall, image(1)", x.image(1), NOT);
        Due.feed(x, "w24,0;p10,9,0,2;p99,0,0,0;");
        x.wall();
        for (int k : new int[] {-1, 2, 256, MIN, MAX}) {
            due.is("image(" + k + ")", x.image(k), BAD);
        }
        due.is("image(1)", x.image(1), 2);
        due.is("image 0 was not kept", x.restore(0), NOT);
        x.hours(1);
        due.is("image(0)", x.image(0), 1);
        x.hours(1);
        due.is("restore(1)", x.restore(1), 2);
        due.is("hour 0", x.count(2), 0);
        due.is("restore(0)", x.restore(0), 1);
        due.is("hour 1", x.count(2), 1);
        due.is("kept anew", x.image(1), 1);
        due.is("restore(1)", x.restore(1), 1);
        due.is("hour 1", x.count(2), 1);
    }

    /** Promise 16: "BAD; NOT: none was kept." */
    private static void restoreNone() {
        WallPatience x = new WallPatience();
        for (int k : new int[] {-1, 2, 256, MIN, MAX}) {
            due.is("restore(" + k + ")", x.restore(k), BAD);
        }
        due.is("restore(0)", x.restore(0), NOT);
        due.is("restore(1)", x.restore(1), NOT);
        Due.feed(x, "w24,0;p99,0,0,0;");
        x.wall();
        x.hours(1);
        due.is("with a wall", x.restore(0), NOT);
        due.is("the act stays", x.count(8), 1);
        // no image was kept by a refused one
        x.image(2);
        due.is("restore(1)", x.restore(1), NOT);
    }

    /** "All is as an IMAGE kept it, nothing can be undone then". */
    private static void restoreForgetsActs() {
        Scene kept = new Scene(x -> {
            past(x);
            x.image(0);
            x.restore(0);
        });
        Scene later = new Scene(x -> {
            past(x);
            x.image(0);
            x.hours(20);
            x.heir(1);
            x.crust(1);
            x.seed(9);
            Due.feed(x, "w3,9;y10,1,1,1;");
            x.wall();
            x.hours(3);
            x.heir(0);
            due.is("restore(0)", x.restore(0), 2);
            due.is("no acts", x.count(8), 0);
            due.is("none", x.undo(), NONE);
        });
        due.isTrue("all is as it was kept", later.isLike(kept));
    }
}
