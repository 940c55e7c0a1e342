/** The boundary cases of part 1, a test for each sentence that names one: the tape, walls, faults, kinds, growth. */
public final class ToldEdgesTest {
    private static final int BAD = WallPatience.BAD, CAST = WallPatience.CAST, FULL = WallPatience.FULL;
    private static final int NONE = WallPatience.NONE;
    private static final String WALL = "w24,9;p10,9,8,7;";
    private static final String SITTER = "p10,0,0,0;";
    private static final Due due = new Due();

    public static void main(String[] args) {
        tapeOf90Bytes();
        bytes0To255();
        tapeIsEmptyThen();
        sitters1To6();
        dusk1To24();
        crusts0To9();
        line10To99();
        threeOthers0To9();
        oneOrTwoFigures();
        sorts();
        noBlanks();
        everyByteInEachPlace();
        aByteIsMissing();
        theEnd();
        theFirstFault();
        faultLeavesAllElse();
        sittersAsTheyCome();
        inPlaceOfTheOneBefore();
        sitterWhat0To10();
        hourOfGettingDown();
        halvesAreCutTowards0();
        growthIs0AtLeast();
        greatestGrowths();
        growthWhetherHeSitsOrNot();
        nightFromDuskOn();
        kindsOverOneAnother();
        due.end();
    }

    private static int walled(WallPatience x, String text) {
        Due.feed(x, text);
        return x.wall();
    }

    private static void wall(String text, int answer) {
        WallPatience x = new WallPatience();
        due.is("wall of " + text, walled(x, text), answer);
        due.is("sitters of " + text, x.count(0), Math.max(0, answer));
        due.is("tape behind " + text, x.count(9), 0);
    }

    /** "THE TAPE has at most 90 bytes"; "how many it has. BAD; FULL." */
    private static void tapeOf90Bytes() {
        WallPatience x = new WallPatience();
        for (int k = 1; k <= 90; k++) {
            due.is("byte " + k, x.feed(k), k);
        }
        due.is("byte 91", x.feed('w'), FULL);
        due.is("byte 91 again", x.feed(255), FULL);
        due.is("no byte, and full", x.feed(256), BAD);
        due.is("no byte below, and full", x.feed(-1), BAD);
        due.is("as many yet", x.count(9), 90);
        WallPatience y = Due.with("w1,0;" + SITTER);
        Due.feed(y, "w24,09;" + "s99,09,09,09;".repeat(6) + "?????");
        due.is("90 bytes", y.count(9), 90);
        due.is("a byte more", y.feed('?'), FULL);
        due.is("behind six sitters of two figures each", y.wall(), -100 - 85);
    }

    /** "A byte (0 .. 255) comes": numbers whose lowest bits are a byte are none. */
    private static void bytes0To255() {
        WallPatience x = new WallPatience();
        int[] none = {-1, 256, 256 + 'w', -256 + 'w', 65536 + 'w', 1 << 30, Integer.MIN_VALUE, Integer.MAX_VALUE,
            Integer.MIN_VALUE + 'w'};
        for (int b : none) {
            due.is("feed(" + b + ")", x.feed(b), BAD);
            due.is("bytes then", x.count(9), 0);
        }
        due.is("feed(0)", x.feed(0), 1);
        due.is("feed(255)", x.feed(255), 2);
        due.is("feed(-1)", x.feed(-1), BAD);
        due.is("bytes then", x.count(9), 2);
    }

    /** "THE TAPE, empty then", by a wall and by a fault. */
    private static void tapeIsEmptyThen() {
        WallPatience x = new WallPatience();
        due.is("an empty tape", x.wall(), -100);
        due.is("a fault", walled(x, "w1,0;q"), -105);
        due.is("bytes", x.count(9), 0);
        due.is("the rest of a sitter is no wall", walled(x, SITTER), -100);
        due.is("a wall", walled(x, "w1,0;" + SITTER), 1);
        due.is("bytes", x.count(9), 0);
        due.is("empty again", x.wall(), -100);
        due.is("the wall stays", x.count(0), 1);
        due.is("the first byte", x.feed('w'), 1);
    }

    /** "and 1 to 6 sitters". */
    private static void sitters1To6() {
        wall("w1,0;", -105);
        for (int n = 1; n <= 6; n++) {
            wall("w1,0;" + SITTER.repeat(n), n);
        }
        wall("w1,0;" + SITTER.repeat(7), -165);
        wall("w1,0;" + SITTER.repeat(6) + "p", -165);
        wall("w1,0;" + SITTER.repeat(6) + "w", -165);
        wall("w1,0;" + SITTER.repeat(6) + ";", -165);
        wall("w1,0;" + SITTER.repeat(6) + "0", -165);
        wall("w1,0;" + SITTER.repeat(5) + "p10,0,0,0", -164);
        wall("w1,0;" + SITTER.repeat(5) + "p", -156);
    }

    /** "DUSK 1 .. 24". */
    private static void dusk1To24() {
        for (int v = 0; v <= 99; v++) {
            boolean told = 1 <= v && v <= 24;
            WallPatience x = new WallPatience();
            due.is("dusk " + v, walled(x, "w" + v + ",0;" + SITTER), told ? 1 : -101);
            due.is("count(3) by dusk " + v, x.count(3), told ? v : 0);
        }
    }

    /** "CRUSTS 0 .. 9". */
    private static void crusts0To9() {
        for (int v = 0; v <= 99; v++) {
            WallPatience x = new WallPatience();
            due.is("crusts " + v, walled(x, "w1," + v + ";" + SITTER.repeat(2)), v <= 9 ? 2 : -103);
            due.is("count(4) by crusts " + v, x.count(4), v <= 9 ? v : 0);
            due.is("count(5) by crusts " + v, x.count(5), v <= 9 ? 2 * v : 0);
            due.is("sitter(1, 6) by crusts " + v, x.sitter(1, 6), v <= 9 ? v : BAD);
        }
    }

    /** "LINE 10 .. 99". */
    private static void line10To99() {
        for (int v = 0; v <= 199; v++) {
            boolean told = 10 <= v && v <= 99;
            WallPatience x = new WallPatience();
            due.is("line " + v, walled(x, "w1,0;h" + v + ",0,0,0;"), told ? 1 : -106);
            due.is("sitter(0, 1) by line " + v, x.sitter(0, 1), told ? v : BAD);
        }
        wall("w1,0;h00,0,0,0;", -106);
        wall("w1,0;h09,0,0,0;", -106);
    }

    /** "the three others 0 .. 9". */
    private static void threeOthers0To9() {
        for (int v = 0; v <= 99; v++) {
            String[] texts = {v + ",1,2;", "1," + v + ",2;", "1,2," + v + ";"};
            for (int k = 0; k < 3; k++) {
                WallPatience x = new WallPatience();
                due.is("number " + k + " is " + v, walled(x, "w1,0;m10," + texts[k]), v <= 9 ? 1 : -109 - 2 * k);
                due.is("sitter by " + v, x.sitter(0, 2 + k), v <= 9 ? v : BAD);
            }
        }
    }

    private static String join(String[] parts) {
        return String.join("", parts);
    }

    /** "numbers of one or two figures"; "of the first figure of a number that .. has more figures". */
    private static void oneOrTwoFigures() {
        String[] parts = {"w", "5", ",", "5", ";", "p", "50", ",", "5", ",", "5", ",", "5", ";"};
        int[] numbers = {1, 3, 6, 8, 10, 12};
        int[] places = {1, 3, 6, 9, 11, 13};
        for (int k = 0; k < numbers.length; k++) {
            String[] with = parts.clone();
            boolean isLine = numbers[k] == 6;
            with[numbers[k]] = "";
            wall(join(with), -100 - places[k]);
            with[numbers[k]] = "5";
            wall(join(with), isLine ? -106 : 1);
            with[numbers[k]] = "05";
            wall(join(with), isLine ? -106 : 1);
            for (String more : new String[] {"005", "050", "500", "000", "0005", "4294967301"}) {
                with[numbers[k]] = more;
                wall(join(with), -100 - places[k]);
            }
        }
        WallPatience x = Due.with("w01,09;y10,00,09,01;");
        int[] want = {1, 9, 9};
        for (int what = 3; what <= 5; what++) {
            due.is("count(" + what + ")", x.count(what), want[what - 3]);
        }
        due.is("hunger 00", x.sitter(0, 2), 0);
        due.is("cold 09", x.sitter(0, 3), 9);
        due.is("worry 01", x.sitter(0, 4), 1);
    }

    /** "SORT a letter: p .. h .. m .. y .. s", and the KIND "as told (1 .. 5)". */
    private static void sorts() {
        for (int b = 0; b <= 255; b++) {
            int kind = "phmys".indexOf((char) b) + 1;
            WallPatience x = new WallPatience();
            due.is("sort " + b, walled(x, "w1,0;" + (char) b + "10,0,0,0;"), kind > 0 ? 1 : -105);
            due.is("kind by " + b, x.sitter(0, 0), kind > 0 ? kind : BAD);
        }
    }

    /** "no blanks": a blank is the fault wherever it comes, but where it makes LINE 1 of 10. */
    private static void noBlanks() {
        for (int at = 0; at <= WALL.length(); at++) {
            for (String blank : new String[] {" ", "\t", "\n", "\0"}) {
                wall(WALL.substring(0, at) + blank + WALL.substring(at), -100 - (at == 8 ? 7 : at));
            }
        }
    }

    /** What is due if a byte stands at a place of w24,9;p10,9,8,7; in place of the one that is there. */
    private static int dueWith(int at, int b) {
        boolean figure = '0' <= b && b <= '9';
        int v = b - '0';
        switch (at) {
            case 0: return b == 'w' ? 1 : -100;
            case 1: return figure && v <= 2 ? 1 : -101;
            case 2: return figure ? (v <= 4 ? 1 : -101) : b == ',' ? -103 : -102;
            case 3: return figure ? -101 : b == ',' ? 1 : -103;
            case 4: return figure ? 1 : -104;
            case 5: return figure ? -104 : b == ';' ? 1 : -105;
            case 6: return "phmys".indexOf((char) b) >= 0 ? 1 : -106;
            case 7: return figure && v >= 1 ? 1 : -107;
            case 8: return figure ? 1 : -107;
            case 9: return figure ? -107 : b == ',' ? 1 : -109;
            case 10: case 12: case 14: return figure ? 1 : -100 - at;
            case 11: case 13: return figure ? -100 - at + 1 : b == ',' ? 1 : -100 - at;
            default: return figure ? -114 : b == ';' ? 1 : -115;
        }
    }

    /** "the first byte that cannot stand there, or of the first figure of a number that is not as told". */
    private static void everyByteInEachPlace() {
        for (int at = 0; at < WALL.length(); at++) {
            for (int b = 0; b <= 255; b++) {
                WallPatience x = new WallPatience();
                int answer = walled(x, WALL.substring(0, at) + (char) b + WALL.substring(at + 1));
                due.is("byte " + b + " at " + at, answer, dueWith(at, b));
            }
        }
    }

    /** What comes behind stands where it cannot, or makes a number that is not as told. */
    private static void aByteIsMissing() {
        int[] want = {-100, 1, 1, -101, -104, -105, -106, -107, -107, -107, -110, -110, -112, -112, -114, -115};
        for (int at = 0; at < WALL.length(); at++) {
            wall(WALL.substring(0, at) + WALL.substring(at + 1), want[at]);
        }
    }

    /** "the end: how many bytes there are"; LINE 1 at the end is no number as told. */
    private static void theEnd() {
        for (int n = 0; n < WALL.length(); n++) {
            wall(WALL.substring(0, n), -100 - (n == 8 ? 7 : n));
            // the second sitter, too, has to come to his end
            wall(WALL + WALL.substring(6, Math.max(6, n)), n <= 6 ? 1 : -110 - (n == 8 ? 7 : n));
        }
        wall(WALL, 1);
    }

    /** "the first": behind it nothing is looked at. */
    private static void theFirstFault() {
        wall("x25,99;", -100);
        wall("w25,99;q9,", -101);
        wall("w24,99;q9,", -104);
        wall("w24,9:q9,", -105);
        wall("w24,9;q9,", -106);
        wall("w24,9;p9,10,", -107);
        wall("w24,9;p10,10,10,10;", -110);
        wall("w24,9;p10,9,10,10;", -112);
        wall("w24,9;p10,9,9,10;", -114);
        wall("w24,9;p10,9,9,9;p9;" + SITTER, -117);
    }

    /** "all else stays": behind a fault all is as it was ahead of the bytes. */
    private static void faultLeavesAllElse() {
        for (String text : new String[] {"", "w", "w5,1;", "w5,1;p9", "w5,1;h20,1,1,1;x", "w5,1;h20,1,1,1;h20,1,1,"}) {
            Scene without = new Scene(ToldEdgesTest::past);
            Scene with = new Scene(x -> {
                past(x);
                due.isTrue("a fault in " + text, walled(x, text) <= -100);
            });
            due.isTrue("all stays behind " + text, with.isLike(without));
        }
        Scene other = new Scene(x -> {
            past(x);
            walled(x, "w20,3;p99,1,2,3;h12,6,2,6;");
        });
        due.isTrue("but not by a wall", !other.isLike(new Scene(ToldEdgesTest::past)));
    }

    private static void past(WallPatience x) {
        walled(x, "w20,3;p99,1,2,3;h12,6,2,6;");
        x.hours(2);
        x.image(1);
        x.crust(0);
        x.news(0, 2);
        x.sheet(2, 1, 4);
        Due.fill(x, 2, 1, 4, 3, 2, 1);
    }

    /** "SITTERS are 0, 1 .. as they come." */
    private static void sittersAsTheyCome() {
        WallPatience x = Due.with("w1,0;s10,0,0,0;y20,0,0,0;m30,0,0,0;h40,0,0,0;p50,0,0,0;s60,0,0,0;");
        int[] kinds = {5, 4, 3, 2, 1, 5};
        for (int one = 0; one < 6; one++) {
            due.is("kind of " + one, x.sitter(one, 0), kinds[one]);
            due.is("line of " + one, x.sitter(one, 1), 10 + 10 * one);
        }
        due.is("no 6", x.sitter(6, 0), BAD);
        due.is("no -1", x.sitter(-1, 0), BAD);
    }

    /** "A WALL that is read stands in place of the one before": of six sitters one is left, and he is new. */
    private static void inPlaceOfTheOneBefore() {
        WallPatience x = Due.with("w1,9;" + "p10,9,9,9;".repeat(6));
        x.hours(3);
        due.is("nobody sits", x.count(1), 0);
        due.is("a smaller one", walled(x, "w24,0;s99,0,0,0;"), 1);
        int[] counts = {1, 1, 0, 24, 0, 0, 0, 0, 0, 0};
        for (int what = 0; what < 10; what++) {
            due.is("count(" + what + ")", x.count(what), counts[what]);
        }
        int[] sitter = {5, 99, 0, 0, 0, 0, 0, 0, 0, 0, NONE};
        for (int what = 0; what <= 10; what++) {
            due.is("sitter(0, " + what + ")", x.sitter(0, what), sitter[what]);
            due.is("sitter(1, " + what + ")", x.sitter(1, what), BAD);
        }
        due.is("nothing can be undone", x.undo(), NONE);
        due.is("a greater one", walled(x, "w24,0;" + SITTER.repeat(6)), 6);
        due.is("all sit", x.count(1), 6);
        due.is("the last one's strain", x.sitter(5, 5), 0);
    }

    /** Promise 4: what 0 .. 10. */
    private static void sitterWhat0To10() {
        WallPatience x = Due.with("w1,2;h34,5,6,7;");
        int[] want = {2, 34, 5, 6, 7, 0, 2, 0, 0, 0, NONE};
        for (int what = 0; what <= 10; what++) {
            due.is("sitter(0, " + what + ")", x.sitter(0, what), want[what]);
        }
        for (int what : new int[] {-1, 11, 256, 1 << 30, Integer.MIN_VALUE, Integer.MAX_VALUE}) {
            due.is("sitter(0, " + what + ")", x.sitter(0, what), BAD);
        }
    }

    /** "the HOUR in which he got DOWN (NONE: he sits)": HOUR 0 is one, too. */
    private static void hourOfGettingDown() {
        WallPatience x = Due.with("w24,0;p10,9,0,2;p20,9,0,2;p21,9,0,2;");
        x.hours(1);
        due.is("in hour 0", x.sitter(0, 10), 0);
        due.is("sits", x.sitter(1, 10), NONE);
        x.hours(1);
        due.is("strain 20 of line 20: in hour 1", x.sitter(1, 10), 1);
        due.is("strain 20 of line 21: sits", x.sitter(2, 10), NONE);
        due.is("in hour 0 yet", x.sitter(0, 10), 0);
        x.heir(0);
        due.is("his heir sits", x.sitter(0, 10), NONE);
    }

    /** "What is divided is cut towards 0": halves of odd numbers. */
    private static void halvesAreCutTowards0() {
        WallPatience x = Due.with("w1,0;p99,0,0,1;p99,0,0,9;m99,0,0,9;p99,0,1,0;p99,0,9,0;s99,8,0,0;");
        int[] byDay = {0, 4, 8, 0, 0, 9};
        for (int one = 0; one < 6; one++) {
            due.is("clear day of " + one, x.growth(one, 0), byDay[one]);
            x.cloak(one, 1);
        }
        due.is("half of 1 by a cloak", x.growth(3, 1), 0);
        due.is("half of 9 by a cloak", x.growth(4, 1), 4);
        x.hours(1);
        due.is("half of 9 by sleep", x.growth(5, 0), 4);
        due.is("half of twice 9 by a cloak", x.growth(4, 1), 9);
        due.is("half of 9 by a cloak at night", x.growth(4, 2), 4);
        due.is("half of twice 1 by a cloak", x.growth(3, 1), 1);
    }

    /** "less PRIDE (0 at least)"; "Of a PROUD one PRIDE counts twice". */
    private static void growthIs0AtLeast() {
        WallPatience x = Due.with("w24,0;p99,9,0,0;p99,8,0,0;h99,9,9,0;h99,9,8,0;y99,8,0,0;s99,9,0,0;");
        for (int one = 0; one < 6; one++) {
            for (int k = 0; k < 9; k++) {
                x.praise(one);
            }
        }
        int[] clear = {0, 0, 0, 0, 0, 1};
        int[] wind = {0, 0, 0, 0, 0, 1};
        for (int one = 0; one < 6; one++) {
            due.is("clear growth of " + one, x.growth(one, 0), clear[one]);
            due.is("windy growth of " + one, x.growth(one, 1), wind[one]);
        }
        x.undo();
        due.is("pride 8", x.growth(5, 0), 2);
        WallPatience y = Due.with("w24,0;p99,9,0,0;h99,9,9,0;h99,9,8,0;");
        for (int one = 0; one < 3; one++) {
            for (int k = 0; k < 8; k++) {
                y.praise(one);
            }
        }
        due.is("9 less 8", y.growth(0, 0), 1);
        due.is("18 less twice 8", y.growth(1, 1), 2);
        due.is("17 less twice 8", y.growth(2, 1), 1);
        due.is("9 less twice 8", y.growth(1, 0), 0);
    }

    /** The greatest that each kind can grow: nines, bad news, wind by night; who is down grows so, too. */
    private static void greatestGrowths() {
        WallPatience x = Due.with("w1,0;p99,9,9,9;h99,9,9,9;m99,9,9,9;y99,9,9,9;s99,9,9,9;");
        for (int one = 0; one < 5; one++) {
            x.news(one, 2);
        }
        int[] byDay = {27, 27, 36, 28, 28};
        int[] byNight = {36, 36, 45, 37, 18};
        for (int one = 0; one < 5; one++) {
            due.is("wind by day of " + one, x.growth(one, 1), byDay[one]);
        }
        x.hours(1);
        for (int one = 0; one < 5; one++) {
            due.is("wind by night of " + one, x.growth(one, 1), byNight[one]);
        }
    }

    /** Promise 5: "whether he sits or not"; SKY 0 .. 2. */
    private static void growthWhetherHeSitsOrNot() {
        WallPatience x = Due.with("w24,0;p10,9,5,2;");
        int[] want = {10, 15, 10};
        for (int sky = 0; sky < 3; sky++) {
            due.is("sits, sky " + sky, x.growth(0, sky), want[sky]);
        }
        x.hours(1);
        due.is("down", x.count(1), 0);
        for (int sky = 0; sky < 3; sky++) {
            due.is("down, sky " + sky, x.growth(0, sky), want[sky]);
        }
        for (int sky : new int[] {-1, 3, 256, 257, Integer.MIN_VALUE, Integer.MAX_VALUE}) {
            due.is("growth(0, " + sky + ")", x.growth(0, sky), BAD);
        }
    }

    /** "It is NIGHT in an HOUR whose rest by 24 is DUSK or more": the last hour of day, the first one of night. */
    private static void nightFromDuskOn() {
        for (int dusk = 1; dusk <= 24; dusk++) {
            WallPatience x = Due.with("w" + dusk + ",0;p99,0,1,0;");
            for (int hour = 0; hour < 50; hour++) {
                boolean night = hour < 24 ? hour >= dusk : hour < 48 ? hour - 24 >= dusk : hour - 48 >= dusk;
                due.is("dusk " + dusk + " hour " + hour, x.count(7), night ? 1 : 0);
                due.is("growth by dusk " + dusk + " in hour " + hour, x.growth(0, 0), night ? 1 : 0);
                x.hours(1);
            }
        }
    }

    /** Promise 6: "KINDS are over one another", KIND 0 .. 5. */
    private static void kindsOverOneAnother() {
        WallPatience x = Due.with("w1,0;p10,9,9,9;h10,0,0,0;m10,0,0,0;y10,0,0,0;s10,0,0,0;");
        String[] such = {"01", "012", "013", "04", "045"};
        for (int turn = 0; turn < 2; turn++) {
            for (int one = 0; one < 5; one++) {
                for (int kind = 0; kind <= 5; kind++) {
                    int want = such[one].indexOf('0' + kind) >= 0 ? one : CAST;
                    due.is("as(" + one + ", " + kind + ")", x.as(one, kind), want);
                }
                for (int kind : new int[] {-1, 6, 256, Integer.MIN_VALUE, Integer.MAX_VALUE}) {
                    due.is("as(" + one + ", " + kind + ")", x.as(one, kind), BAD);
                }
            }
            // who is down is taken so as well
            x.hours(1);
            due.is("0 is down", x.count(1), 4);
        }
        due.is("as(5, 0)", x.as(5, 0), BAD);
        due.is("as(5, 6)", x.as(5, 6), BAD);
    }
}
