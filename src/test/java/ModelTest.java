import java.util.ArrayList;
import java.util.List;
import java.util.Random;

/** Runs of calls, drawn from fixed seeds, answered by the program as by the model; wild arguments among them. */
public final class ModelTest {
    private static final int RUNS = 1200;
    private static final int CALLS = 512;
    private static final int TOLD_RUNS = 5;
    private static final String[] NAMES = {"feed", "wall", "sitter", "growth", "as", "hours", "crust", "news", "praise",
        "cloak", "heir", "undo", "seed", "image", "restore", "strain", "down", "duel", "honour", "eat", "train", "dusk",
        "odds", "challenge", "game", "sheet", "drop", "item", "copy", "film", "round", "goesOn", "told", "ate", "count"};

    private final Random random;
    private final WallPatience program = new WallPatience();
    private final Model model = new Model();
    private final List<String> calls = new ArrayList<>();
    private boolean wrong;
    private long answers;

    private ModelTest(long seed) {
        random = new Random(seed);
    }

    public static void main(String[] args) {
        int runs = args.length > 0 ? Integer.parseInt(args[0]) : RUNS;
        long first = args.length > 1 ? Long.parseLong(args[1]) : 1;
        int wrong = 0;
        long answers = 0;
        for (int run = 0; run < runs && wrong < TOLD_RUNS; run++) {
            ModelTest t = new ModelTest(first + run);
            t.play();
            answers += t.answers;
            if (t.wrong) {
                wrong++;
                System.out.println("run " + run + ": " + t.calls);
            }
        }
        System.out.println(answers + " answers compared, " + wrong + " runs wrong");
        if (wrong != 0 || answers == 0) {
            System.exit(1);
        }
    }

    private void play() {
        while (answers < CALLS && !wrong) {
            step();
        }
    }

    private void same(String call, long got, long want) {
        answers++;
        calls.add(call + " " + got);
        if (got != want && !wrong) {
            wrong = true;
            calls.add("WRONG, due is " + want);
        }
    }

    private int upTo(int most) {
        return random.nextInt(most + 1);
    }

    /** Mostly least .. most, now and then just outside or far outside. */
    private int num(int least, int most) {
        int luck = random.nextInt(40);
        if (luck == 0) {
            return least - 1;
        }
        if (luck == 1) {
            return most == Integer.MAX_VALUE ? most : most + 1;
        }
        if (luck == 2) {
            int[] wild = {Integer.MIN_VALUE, Integer.MAX_VALUE, -1, 0, 1 << 30, 256, -128};
            return wild[random.nextInt(wild.length)];
        }
        return least + random.nextInt(most - least + 1);
    }

    private int one() {
        return num(0, Math.max(0, model.sitters() - 1));
    }

    private int laneOf(int sheet) {
        boolean known = sheet >= 0 && sheet < 4 && random.nextInt(20) != 0;
        return known ? model.lane(sheet) : num(0, 3);
    }

    private void feedAll(String text) {
        for (int k = 0; k < text.length() && answers < CALLS; k++) {
            same("feed(" + (int) text.charAt(k) + ")", program.feed(text.charAt(k)), model.feed(text.charAt(k)));
        }
    }

    private String number(int least, int most) {
        int v = least + upTo(most - least);
        return random.nextInt(12) == 0 && v < 10 ? "0" + v : String.valueOf(v);
    }

    private String wallText() {
        StringBuilder text = new StringBuilder("w");
        text.append(number(1, 24)).append(',').append(number(0, random.nextBoolean() ? 9 : 3)).append(';');
        int n = 1 + upTo(5);
        boolean slow = random.nextInt(3) == 0;
        int most = slow ? 2 : 9;
        for (int k = 0; k < n; k++) {
            text.append("phmys".charAt(upTo(4))).append(number(random.nextBoolean() ? 10 : 70, 99)).append(',');
            text.append(number(0, most)).append(',').append(number(0, most)).append(',').append(number(0, most));
            text.append(';');
        }
        return text.toString();
    }

    private String spoilt(String text) {
        int at = upTo(text.length() - 1);
        char sign = "w,;phmys0123456789 x\0\u00ff".charAt(random.nextInt(22));
        switch (upTo(3)) {
            case 0: return text.substring(0, at);
            case 1: return text.substring(0, at) + sign + text.substring(at);
            case 2: return text.substring(0, at) + sign + text.substring(at + 1);
            default: return text.substring(0, at) + text.substring(at + 1);
        }
    }

    private void newWall() {
        String text = wallText();
        feedAll(random.nextInt(4) == 0 ? spoilt(text) : text);
        same("wall()", program.wall(), model.wall());
    }

    private void step() {
        if (model.sitters() == 0 && random.nextInt(8) != 0 || random.nextInt(150) == 0) {
            newWall();
        } else if (random.nextInt(25) == 0) {
            fillRow();
        } else {
            call(NAMES[random.nextInt(NAMES.length)]);
        }
    }

    /** A row that is likely to be as told for round, for pairs, or for who ate when. */
    private void fillRow() {
        int sheet = upTo(3);
        int lane = upTo(3);
        int n = random.nextBoolean() ? 24 : upTo(24);
        same("sheet(" + sheet + ", " + lane + ", " + n + ")", program.sheet(sheet, lane, n), model.sheet(sheet, lane, n));
        int sort = upTo(2);
        int[] strains = new int[0];
        int one = upTo(5);
        if (sort == 2 && one < model.sitters() && n > 0) {
            int set = 0;
            for (int k = 0; k < model.crustsOf(one); k++) {
                set |= 1 << upTo(7);
            }
            strains = model.strains(one, Math.min(8, n), set);
        }
        for (int i = 0; i < n && answers < CALLS; i++) {
            long v = sort == 0 ? upTo(99) : sort == 1 ? upTo(7) : i < strains.length ? strains[i] : 0;
            same("item(" + sheet + ", " + lane + ", " + i + ", " + v + ")", program.item(sheet, lane, i, v),
                model.item(sheet, lane, i, v));
        }
        if (sort == 2) {
            int m = Math.max(1, strains.length);
            for (int what = 0; what < 2; what++) {
                same("ate(" + one + ", " + sheet + ", " + lane + ", 0, " + m + ", " + what + ")",
                    program.ate(one, sheet, lane, 0, m, what), model.ate(one, sheet, lane, 0, m, what));
            }
        }
    }

    private void call(String name) {
        switch (name) {
            case "feed", "wall", "sitter", "growth", "as", "count" -> callTold(name);
            case "strain", "down", "duel", "honour", "eat", "train", "dusk" -> callForetold(name);
            case "odds", "challenge", "game" -> callOdds(name);
            case "sheet", "drop", "item", "copy", "film" -> callSheets(name);
            case "round", "goesOn", "told", "ate" -> callRows(name);
            default -> callActs(name);
        }
    }

    private static String text(String name, long... args) {
        StringBuilder s = new StringBuilder(name).append('(');
        for (int k = 0; k < args.length; k++) {
            s.append(k == 0 ? "" : ", ").append(args[k]);
        }
        return s.append(')').toString();
    }

    private void callTold(String name) {
        int a = one();
        switch (name) {
            case "feed" -> {
                int b = num(0, 255);
                if (random.nextInt(10) == 0) {
                    same(text(name, b), program.feed(b), model.feed(b));
                }
            }
            case "wall" -> {
                if (random.nextInt(10) == 0) {
                    same("wall()", program.wall(), model.wall());
                }
            }
            case "sitter" -> {
                for (int what = -1; what <= 11; what++) {
                    same(text(name, a, what), program.sitter(a, what), model.sitter(a, what));
                }
            }
            case "growth" -> {
                int b = num(0, 2);
                same(text(name, a, b), program.growth(a, b), model.growth(a, b));
            }
            case "as" -> {
                int b = num(0, 5);
                same(text(name, a, b), program.as(a, b), model.as(a, b));
            }
            default -> {
                int b = num(0, 9);
                same(text(name, b), program.count(b), model.count(b));
            }
        }
    }

    private void callActs(String name) {
        int a = one();
        switch (name) {
            case "hours" -> {
                int n = random.nextBoolean() ? num(1, 3) : num(1, 24);
                same(text(name, n), program.hours(n), model.hours(n));
            }
            case "crust" -> same(text(name, a), program.crust(a), model.crust(a));
            case "news" -> {
                int v = num(0, 2);
                same(text(name, a, v), program.news(a, v), model.news(a, v));
            }
            case "praise" -> same(text(name, a), program.praise(a), model.praise(a));
            case "cloak" -> {
                int is = num(0, 1);
                same(text(name, a, is), program.cloak(a, is), model.cloak(a, is));
            }
            case "heir" -> {
                for (int k = 0; k < 6; k++) {
                    same(text(name, k), program.heir(k), model.heir(k));
                }
            }
            case "undo" -> {
                for (int k = upTo(2) * upTo(10); k >= 0; k--) {
                    same("undo()", program.undo(), model.undo());
                }
            }
            case "seed" -> {
                int v = random.nextInt(5) == 0 ? num(-3, 3) : random.nextInt();
                same(text(name, v), program.seed(v), model.seed(v));
            }
            case "image" -> {
                int k = num(0, 1);
                same(text(name, k), program.image(k), model.image(k));
            }
            default -> {
                int k = num(0, 1);
                same(text(name, k), program.restore(k), model.restore(k));
            }
        }
    }

    private void callForetold(String name) {
        int a = one();
        int b = one();
        switch (name) {
            case "strain" -> {
                int n = num(0, 60);
                same(text(name, a, n), program.strain(a, n), model.strain(a, n));
            }
            case "down" -> same(text(name, a), program.down(a), model.down(a));
            case "duel" -> same(text(name, a, b), program.duel(a, b), model.duel(a, b));
            case "honour" -> same(text(name, a), program.honour(a), model.honour(a));
            case "eat" -> {
                int n = num(1, 8);
                int what = num(0, 1);
                same(text(name, a, n, what), program.eat(a, n, what), model.eat(a, n, what));
            }
            case "train" -> {
                int n = random.nextBoolean() ? num(1, 12) : num(1, 40);
                int what = num(0, 3);
                same(text(name, a, n, what), program.train(a, n, what), model.train(a, n, what));
            }
            default -> {
                int n = num(1, 40);
                same(text(name, n), program.dusk(n), model.dusk(n));
            }
        }
    }

    private void callOdds(String name) {
        int a = one();
        int b = one();
        // ten hours take the model long, so they come less often
        int n = random.nextInt(6) == 0 ? num(0, 10) : num(0, 6);
        int p = num(0, 10);
        switch (name) {
            case "odds" -> {
                int part = num(0, 1);
                same(text(name, a, b, n, p, part), program.odds(a, b, n, p, part), model.odds(a, b, n, p, part));
            }
            case "challenge" -> same(text(name, a, n, p), program.challenge(a, n, p), model.challenge(a, n, p));
            default -> {
                int turns = num(0, 3);
                same(text(name, a, b, turns), program.game(a, b, turns), model.game(a, b, turns));
            }
        }
    }

    private void callSheets(String name) {
        int a = num(0, 3);
        int lane = laneOf(a);
        int i = random.nextBoolean() ? 0 : num(0, 24);
        switch (name) {
            case "sheet" -> {
                int n = num(0, 24);
                int l = num(0, 3);
                same(text(name, a, l, n), program.sheet(a, l, n), model.sheet(a, l, n));
            }
            case "drop" -> {
                if (random.nextInt(4) == 0) {
                    same(text(name, a), program.drop(a), model.drop(a));
                }
            }
            case "item" -> {
                long v = random.nextBoolean() ? num(-128, 127) : random.nextLong();
                same(text(name, a, lane, i, v), program.item(a, lane, i, v), model.item(a, lane, i, v));
            }
            case "copy" -> {
                int to = num(0, 3);
                int j = num(0, 12);
                int n = num(0, 12);
                same(text(name, a, i, to, j, n), program.copy(a, i, to, j, n), model.copy(a, i, to, j, n));
            }
            default -> {
                int one = one();
                int n = num(1, 24);
                same(text(name, one, n, a, lane, i), program.film(one, n, a, lane, i), model.film(one, n, a, lane, i));
            }
        }
    }

    private void callRows(String name) {
        int a = num(0, 3);
        int lane = laneOf(a);
        int i = random.nextInt(3) != 0 ? upTo(6) : num(0, 24);
        int what = num(0, 1);
        switch (name) {
            case "round" -> {
                int n = num(2, 7);
                same(text(name, a, lane, i, n, what), program.round(a, lane, i, n, what), model.round(a, lane, i, n, what));
            }
            case "goesOn" -> {
                int n = num(0, 12);
                int set = num(0, 255);
                same(text(name, a, lane, i, n, set), program.goesOn(a, lane, i, n, set), model.goesOn(a, lane, i, n, set));
            }
            case "told" -> {
                int n = num(0, 12);
                same(text(name, a, lane, i, n, what), program.told(a, lane, i, n, what), model.told(a, lane, i, n, what));
            }
            default -> {
                int one = one();
                int n = num(1, 8);
                same(text(name, one, a, lane, i, n, what), program.ate(one, a, lane, i, n, what),
                    model.ate(one, a, lane, i, n, what));
            }
        }
    }
}
