/** Duels of patience: two sit on a wall till one gets down. The document's promises say what each call answers. */
public final class WallPatience {
    public static final int BAD = -1, NOT = -2, FULL = -3, NONE = -4, NULL = -11, CAST = -12, INDEX = -13, SIZE = -14;

    private static final int FINE = 0;

    private static final int TAPE_BYTES = 90;
    private static final int SITTERS = 6;
    private static final int ACTS = 20;
    private static final int IMAGES = 2;
    private static final int SHEETS = 4;
    private static final int LANES = 4;
    private static final int ITEMS = 24;

    private static final int DAY = 24;
    private static final int LAST_HOUR = 9999;
    private static final int HOURS_AT_ONCE = 24;
    private static final int AHEAD = 60;
    private static final int FACTOR = 16807;
    private static final int PRIME = 2147483647;
    private static final int SKIES = 3;
    private static final int CLEAR = 0;
    private static final int WIND = 1;

    private static final int KINDS = 6;
    private static final int PROUD = 2;
    private static final int MARRIED = 3;
    private static final int YOUNG = 4;
    private static final int SLEEPY = 5;
    private static final int[] KIND_OVER = {-1, 0, 1, 1, 0, 4};
    private static final char[] SORTS = {'p', 'h', 'm', 'y', 's'};

    private static final int LEAST_LINE = 10;
    private static final int MOST_LINE = 99;
    private static final int MOST_STRAIN = 999;
    private static final int MOST_PRIDE = 9;
    private static final int CRUST_HELPS = 6;
    private static final int NO_NEWS = 0;
    private static final int GOOD_NEWS = 1;
    private static final int BAD_NEWS = 2;

    private static final int EAT_HOURS = 8;
    private static final int TRAIN_HOURS = 40;
    private static final int TRAIN_LINE = 20;
    private static final int ODDS_HOURS = 10;
    private static final int TENTHS = 10;
    private static final int GAME_HOURS = 3;
    private static final int GAME_MOVES = 3;
    private static final int EDGE_SHIFT = 2000;
    private static final int HONOUR_SHIFT = 10;
    private static final int ROUND_WALLS = 7;
    private static final int MOST_PLACE = 99;
    private static final int PEOPLE = 8;
    private static final int EVERYBODY = 255;
    private static final int PAIRS = 12;

    private final Tape tape;
    private final Wall wall;
    private final Wall draft;
    private final History history;
    private final Wall[] images;
    private final Sheet[] sheets;
    private final Forecast forecast;
    private final Chances chances;
    private final Seconds seconds;
    private final Tour tour;
    private final Gossip gossip;

    public WallPatience() {
        tape = new Tape();
        wall = new Wall();
        draft = new Wall();
        history = new History();
        images = new Wall[IMAGES];
        for (int k = 0; k < IMAGES; k++) {
            images[k] = new Wall();
        }
        sheets = new Sheet[SHEETS];
        for (int k = 0; k < SHEETS; k++) {
            sheets[k] = new Sheet();
        }
        forecast = new Forecast();
        chances = new Chances();
        seconds = new Seconds();
        tour = new Tour();
        gossip = new Gossip();
    }

    // ---- 1 what is told

    public int feed(int letter) {
        if (!within(letter, 0, 255)) {
            return BAD;
        }
        return tape.put(letter) ? tape.length : FULL;
    }

    public int wall() {
        int fault = tape.readInto(draft);
        tape.length = 0;
        if (fault != Tape.NO_FAULT) {
            return -100 - fault;
        }
        // the draw outlives the wall
        draft.draw = wall.draw;
        wall.takeFrom(draft);
        history.forget();
        return wall.size;
    }

    public int sitter(int one, int what) {
        if (!wall.has(one)) {
            return BAD;
        }
        Sitter s = wall.sitters[one];
        switch (what) {
            case 0: return s.kind;
            case 1: return s.line;
            case 2: return s.hunger;
            case 3: return s.cold;
            case 4: return s.worry;
            case 5: return s.strain;
            case 6: return s.crusts;
            case 7: return s.news;
            case 8: return s.pride;
            case 9: return s.cloaked ? 1 : 0;
            case 10: return s.downHour;
            default: return BAD;
        }
    }

    public int growth(int one, int sky) {
        if (!wall.has(one) || !within(sky, 0, SKIES - 1)) {
            return BAD;
        }
        return wall.sitters[one].grows(sky, wall.isNight());
    }

    public int as(int one, int kind) {
        if (!wall.has(one) || !within(kind, 0, KINDS - 1)) {
            return BAD;
        }
        return isUnder(wall.sitters[one].kind, kind) ? one : CAST;
    }

    // ---- 2 acts

    public int hours(int n) {
        if (!within(n, 1, HOURS_AT_ONCE)) {
            return BAD;
        }
        if (!wall.stands()) {
            return NOT;
        }
        if (wall.hour + n > LAST_HOUR) {
            return FULL;
        }
        for (int h = 0; h < n; h++) {
            history.keep(wall);
            wall.passHour();
        }
        return wall.sitting();
    }

    public int crust(int one) {
        if (!wall.has(one)) {
            return BAD;
        }
        Sitter s = wall.sitters[one];
        if (!s.canEat()) {
            return NOT;
        }
        history.keep(wall);
        s.eatCrust();
        return s.strain;
    }

    public int news(int one, int v) {
        if (!wall.has(one) || !within(v, NO_NEWS, BAD_NEWS)) {
            return BAD;
        }
        Sitter s = wall.sitters[one];
        if (!s.sits()) {
            return NOT;
        }
        history.keep(wall);
        int before = s.news;
        s.news = v;
        return before;
    }

    public int praise(int one) {
        if (!wall.has(one)) {
            return BAD;
        }
        Sitter s = wall.sitters[one];
        if (!s.sits() || s.pride >= MOST_PRIDE) {
            return NOT;
        }
        history.keep(wall);
        s.pride++;
        return s.pride;
    }

    public int cloak(int one, int is) {
        if (!wall.has(one) || !within(is, 0, 1)) {
            return BAD;
        }
        Sitter s = wall.sitters[one];
        boolean given = is == 1;
        if (!s.sits() || s.cloaked == given) {
            return NOT;
        }
        history.keep(wall);
        s.cloaked = given;
        return wall.cloaks();
    }

    public int heir(int one) {
        if (!wall.has(one)) {
            return BAD;
        }
        Sitter s = wall.sitters[one];
        if (s.sits()) {
            return NOT;
        }
        history.keep(wall);
        s.line = Math.max(LEAST_LINE, s.line - 2);
        s.sitDown(wall.toldCrusts);
        return s.line;
    }

    public int undo() {
        return history.giveBack(wall) ? history.size : NONE;
    }

    public int seed(int v) {
        if (!within(v, 1, PRIME - 1)) {
            return BAD;
        }
        int before = wall.draw;
        wall.draw = v;
        return before;
    }

    public int image(int k) {
        if (!within(k, 0, IMAGES - 1)) {
            return BAD;
        }
        if (!wall.stands()) {
            return NOT;
        }
        images[k].takeFrom(wall);
        return wall.sitting();
    }

    public int restore(int k) {
        if (!within(k, 0, IMAGES - 1)) {
            return BAD;
        }
        if (!images[k].stands()) {
            return NOT;
        }
        wall.takeFrom(images[k]);
        history.forget();
        return wall.sitting();
    }

    // ---- 3 foretold

    public int strain(int one, int n) {
        if (!wall.has(one) || !within(n, 0, AHEAD)) {
            return BAD;
        }
        forecast.look(wall);
        return forecast.strainBehind(wall.sitters[one], n);
    }

    public int down(int one) {
        if (!wall.has(one)) {
            return BAD;
        }
        Sitter s = wall.sitters[one];
        if (!s.sits()) {
            return 0;
        }
        forecast.look(wall);
        int hours = forecast.hoursSat(s, AHEAD, 0);
        return hours < AHEAD ? hours + 1 : NONE;
    }

    public int duel(int one, int other) {
        int refusal = refusesTwo(one, other);
        if (refusal != FINE) {
            return refusal;
        }
        forecast.look(wall);
        int ahead = forecast.outlasts(wall.sitters[one], wall.sitters[other]);
        if (ahead == 0) {
            return NONE;
        }
        return ahead > 0 ? one : other;
    }

    public int honour(int one) {
        int refusal = refusesOne(one);
        if (refusal != FINE) {
            return refusal;
        }
        forecast.look(wall);
        int honour = 0;
        for (int other = 0; other < wall.size; other++) {
            if (other != one && wall.sitters[other].sits()) {
                honour += forecast.outlasts(wall.sitters[one], wall.sitters[other]);
            }
        }
        return honour + HONOUR_SHIFT;
    }

    public int eat(int one, int n, int what) {
        if (!within(n, 1, EAT_HOURS) || !within(what, 0, 1)) {
            return BAD;
        }
        int refusal = refusesOne(one);
        if (refusal != FINE) {
            return refusal;
        }
        forecast.look(wall);
        Sitter s = wall.sitters[one];
        int set = forecast.bestMeals(s, n);
        return what == 0 ? forecast.hoursSat(s, n, set) : set;
    }

    public int train(int one, int n, int what) {
        if (!within(n, 1, TRAIN_HOURS) || !within(what, 0, 3)) {
            return BAD;
        }
        int refusal = refusesOne(one);
        if (refusal != FINE) {
            return refusal;
        }
        forecast.look(wall);
        return forecast.findTraining(wall.sitters[one], n) ? forecast.training[what] : NONE;
    }

    public int dusk(int n) {
        if (!within(n, 1, TRAIN_HOURS)) {
            return BAD;
        }
        if (!wall.stands()) {
            return NOT;
        }
        forecast.look(wall);
        // a sleepy one grows less by night, so an earlier dusk may be no better: each is tried
        for (int dusk = DAY; dusk >= 1; dusk--) {
            forecast.setNights(wall.hour, dusk);
            if (forecast.sittingBehind(wall, n) <= 1) {
                return dusk;
            }
        }
        return NONE;
    }

    public long odds(int one, int other, int n, int p, int part) {
        if (!within(n, 0, ODDS_HOURS) || !within(p, 0, TENTHS) || !within(part, 0, 1)) {
            return BAD;
        }
        int refusal = refusesTwo(one, other);
        if (refusal != FINE) {
            return refusal;
        }
        chances.weigh(wall, n, p);
        return chances.lowest(chances.waysToOutlast(wall.sitters[one], wall.sitters[other]), part);
    }

    public int challenge(int one, int n, int p) {
        if (!within(n, 0, ODDS_HOURS) || !within(p, 0, TENTHS)) {
            return BAD;
        }
        int refusal = refusesOne(one);
        if (refusal != FINE) {
            return refusal;
        }
        chances.weigh(wall, n, p);
        int best = NONE;
        long most = -1;
        for (int other = 0; other < wall.size; other++) {
            if (other == one || !wall.sitters[other].sits()) {
                continue;
            }
            // all odds here are parts of the same whole, so the ways alone tell the greatest
            long ways = chances.waysToOutlast(wall.sitters[one], wall.sitters[other]);
            if (ways > most) {
                most = ways;
                best = other;
            }
        }
        return best;
    }

    public int game(int one, int other, int n) {
        if (!within(n, 0, GAME_HOURS)) {
            return BAD;
        }
        int refusal = refusesTwo(one, other);
        if (refusal != FINE) {
            return refusal;
        }
        forecast.look(wall);
        return seconds.play(wall.sitters[one], wall.sitters[other], forecast, n) + EDGE_SHIFT;
    }

    // ---- 4 sheets

    public int sheet(int sheet, int lane, int n) {
        if (!within(sheet, 0, SHEETS - 1) || !within(lane, 0, LANES - 1) || n > ITEMS) {
            return BAD;
        }
        if (n < 0) {
            return SIZE;
        }
        sheets[sheet].begin(lane, n);
        return n;
    }

    public int drop(int sheet) {
        if (!within(sheet, 0, SHEETS - 1)) {
            return BAD;
        }
        Sheet s = sheets[sheet];
        if (s.isNothing()) {
            return NULL;
        }
        int had = s.size;
        s.becomeNothing();
        return had;
    }

    public long item(int sheet, int lane, int i, long v) {
        int refusal = refusesRow(sheet, lane, i, 1);
        if (refusal != FINE) {
            return refusal;
        }
        Sheet s = sheets[sheet];
        s.put(i, v);
        return s.items[i];
    }

    public int copy(int from, int i, int to, int j, int n) {
        if (!within(from, 0, SHEETS - 1) || !within(to, 0, SHEETS - 1)) {
            return BAD;
        }
        Sheet source = sheets[from];
        Sheet target = sheets[to];
        if (source.isNothing() || target.isNothing()) {
            return NULL;
        }
        if (source.lane != target.lane) {
            return CAST;
        }
        if (!source.holds(i, n) || !target.holds(j, n)) {
            return INDEX;
        }
        System.arraycopy(source.items, i, target.items, j, n);
        return n;
    }

    public int film(int one, int n, int sheet, int lane, int i) {
        if (!wall.has(one) || !within(n, 1, HOURS_AT_ONCE)) {
            return BAD;
        }
        int refusal = refusesRow(sheet, lane, i, n);
        if (refusal != FINE) {
            return refusal;
        }
        forecast.look(wall);
        forecast.filmOnto(sheets[sheet], i, wall.sitters[one], n);
        return n;
    }

    public int round(int sheet, int lane, int i, int n, int what) {
        if (!within(n, 2, ROUND_WALLS) || !within(what, 0, 1)) {
            return BAD;
        }
        int refusal = refusesPairs(sheet, lane, i, n, MOST_PLACE);
        if (refusal != FINE) {
            return refusal;
        }
        tour.plan(sheets[sheet], i, n);
        return what == 0 ? tour.shortest : tour.firstStop;
    }

    public int goesOn(int sheet, int lane, int i, int n, int set) {
        if (!within(n, 0, PAIRS) || !within(set, 0, EVERYBODY)) {
            return BAD;
        }
        int refusal = refusesPairs(sheet, lane, i, n, PEOPLE - 1);
        if (refusal != FINE) {
            return refusal;
        }
        gossip.hear(sheets[sheet], i, n);
        return gossip.knowAtLast(set);
    }

    public int told(int sheet, int lane, int i, int n, int what) {
        if (!within(n, 0, PAIRS) || !within(what, 0, 1)) {
            return BAD;
        }
        int refusal = refusesPairs(sheet, lane, i, n, PEOPLE - 1);
        if (refusal != FINE) {
            return refusal;
        }
        gossip.hear(sheets[sheet], i, n);
        int set = gossip.fewestToTell();
        return what == 0 ? Integer.bitCount(set) : set;
    }

    public int ate(int one, int sheet, int lane, int i, int n, int what) {
        if (!wall.has(one) || !within(n, 1, EAT_HOURS) || !within(what, 0, 1)) {
            return BAD;
        }
        int refusal = refusesRow(sheet, lane, i, n);
        if (refusal != FINE) {
            return refusal;
        }
        Sitter s = wall.sitters[one];
        if (!s.sits()) {
            return NOT;
        }
        forecast.look(wall);
        forecast.findMeals(s, sheets[sheet], i, n);
        return what == 0 ? forecast.mealSets : forecast.leastMeals;
    }

    public int count(int what) {
        switch (what) {
            case 0: return wall.size;
            case 1: return wall.sitting();
            case 2: return wall.hour;
            case 3: return wall.duskHour;
            case 4: return wall.toldCrusts;
            case 5: return wall.allCrusts();
            case 6: return wall.sky;
            case 7: return wall.stands() && wall.isNight() ? 1 : 0;
            case 8: return history.size;
            case 9: return tape.length;
            default: return BAD;
        }
    }

    // ---- what calls have in common

    private static boolean within(int v, int least, int most) {
        return v >= least && v <= most;
    }

    private static boolean isUnder(int kind, int over) {
        int at = kind;
        for (int step = 0; step < KINDS && within(at, 0, KINDS - 1); step++) {
            if (at == over) {
                return true;
            }
            at = KIND_OVER[at];
        }
        return false;
    }

    private static boolean isDark(int hour, int dusk) {
        return hour % DAY >= dusk;
    }

    private static int drawAfter(int draw) {
        return (int) ((long) FACTOR * draw % PRIME);
    }

    private int refusesOne(int one) {
        if (!wall.has(one)) {
            return BAD;
        }
        return wall.sitters[one].sits() ? FINE : NOT;
    }

    private int refusesTwo(int one, int other) {
        if (!wall.has(one) || !wall.has(other) || one == other) {
            return BAD;
        }
        return wall.sitters[one].sits() && wall.sitters[other].sits() ? FINE : NOT;
    }

    private int refusesRow(int sheet, int lane, int i, int n) {
        if (!within(sheet, 0, SHEETS - 1) || !within(lane, 0, LANES - 1)) {
            return BAD;
        }
        Sheet s = sheets[sheet];
        if (s.isNothing()) {
            return NULL;
        }
        if (s.lane != lane) {
            return CAST;
        }
        return s.holds(i, n) ? FINE : INDEX;
    }

    private int refusesPairs(int sheet, int lane, int i, int n, int most) {
        int refusal = refusesRow(sheet, lane, i, 2 * n);
        if (refusal != FINE) {
            return refusal;
        }
        return sheets[sheet].areWithin(i, 2 * n, most) ? FINE : NOT;
    }

    /** One on the wall: what was told of him, and how he is now. */
    private static final class Sitter {
        int kind;
        int line;
        int hunger;
        int cold;
        int worry;
        int strain;
        int crusts;
        int news;
        int pride;
        boolean cloaked;
        int downHour = NONE;

        void takeFrom(Sitter from) {
            kind = from.kind;
            line = from.line;
            hunger = from.hunger;
            cold = from.cold;
            worry = from.worry;
            strain = from.strain;
            crusts = from.crusts;
            news = from.news;
            pride = from.pride;
            cloaked = from.cloaked;
            downHour = from.downHour;
        }

        void sitDown(int toldCrusts) {
            strain = 0;
            crusts = toldCrusts;
            news = NO_NEWS;
            pride = 0;
            cloaked = false;
            downHour = NONE;
        }

        boolean sits() {
            return downHour == NONE;
        }

        boolean canEat() {
            return sits() && crusts > 0;
        }

        void eatCrust() {
            if (canEat()) {
                crusts--;
                strain = Math.max(0, strain - CRUST_HELPS);
            }
        }

        int grows(int sky, boolean night) {
            // a sleepy one is young too
            int appetite = kind == YOUNG || kind == SLEEPY ? hunger + 1 : hunger;
            int honour = kind == PROUD ? 2 * pride : pride;
            int sum = Math.max(0, appetite + chill(sky, night) + care() - honour);
            return kind == SLEEPY && night ? sum / 2 : sum;
        }

        private int chill(int sky, boolean night) {
            int sum = (sky == WIND ? cold : 0) + (night ? cold : 0);
            return cloaked ? sum / 2 : sum;
        }

        private int care() {
            if (news == GOOD_NEWS) {
                return 0;
            }
            int once = news == BAD_NEWS ? worry : worry / 2;
            return kind == MARRIED ? 2 * once : once;
        }

        void passHour(int sky, boolean night, int hour) {
            if (!sits()) {
                return;
            }
            strain = Math.min(MOST_STRAIN, strain + grows(sky, night));
            if (strain >= line) {
                downHour = hour;
            }
        }
    }

    /** A wall with its sitters, and the draw, as they are at one time; a wall without sitters does not stand. */
    private static final class Wall {
        final Sitter[] sitters = new Sitter[SITTERS];
        int size;
        int duskHour;
        int toldCrusts;
        int hour;
        int sky;
        int draw = 1;

        Wall() {
            for (int k = 0; k < SITTERS; k++) {
                sitters[k] = new Sitter();
            }
        }

        void takeFrom(Wall from) {
            size = from.size;
            duskHour = from.duskHour;
            toldCrusts = from.toldCrusts;
            hour = from.hour;
            sky = from.sky;
            draw = from.draw;
            for (int k = 0; k < SITTERS; k++) {
                sitters[k].takeFrom(from.sitters[k]);
            }
        }

        void begin(int dusk, int crusts) {
            size = 0;
            duskHour = dusk;
            toldCrusts = crusts;
            hour = 0;
            sky = CLEAR;
        }

        boolean stands() {
            return size > 0;
        }

        boolean has(int one) {
            return one >= 0 && one < size && one < SITTERS;
        }

        boolean isNight() {
            return isDark(hour, duskHour);
        }

        int sitting() {
            int sum = 0;
            for (int k = 0; k < size; k++) {
                if (sitters[k].sits()) {
                    sum++;
                }
            }
            return sum;
        }

        int cloaks() {
            int sum = 0;
            for (int k = 0; k < size; k++) {
                if (sitters[k].cloaked) {
                    sum++;
                }
            }
            return sum;
        }

        int allCrusts() {
            int sum = 0;
            for (int k = 0; k < size; k++) {
                sum += sitters[k].crusts;
            }
            return sum;
        }

        void passHour() {
            draw = drawAfter(draw);
            sky = draw % SKIES;
            boolean night = isNight();
            for (int k = 0; k < size; k++) {
                sitters[k].passHour(sky, night, hour);
            }
            hour++;
        }
    }

    /** The bytes that came, and how a wall is read from them: behind the first fault nothing more is read. */
    private static final class Tape {
        static final int NO_FAULT = -1;
        private static final int END = -1;

        private final int[] bytes = new int[TAPE_BYTES];
        int length;
        private int place;
        private int fault;

        boolean put(int letter) {
            if (length >= TAPE_BYTES) {
                return false;
            }
            bytes[length] = letter;
            length++;
            return true;
        }

        int readInto(Wall target) {
            place = 0;
            fault = NO_FAULT;
            expect('w');
            int dusk = readNumber(1, DAY);
            expect(',');
            int crusts = readNumber(0, 9);
            expect(';');
            target.begin(dusk, crusts);
            readSitter(target);
            for (int more = 1; more < SITTERS && place < length; more++) {
                readSitter(target);
            }
            if (fault == NO_FAULT && place < length) {
                fault = place;
            }
            return fault;
        }

        private void readSitter(Wall target) {
            int kind = readSort();
            int line = readNumber(LEAST_LINE, MOST_LINE);
            expect(',');
            int hunger = readNumber(0, 9);
            expect(',');
            int cold = readNumber(0, 9);
            expect(',');
            int worry = readNumber(0, 9);
            expect(';');
            if (fault != NO_FAULT || target.size >= SITTERS) {
                return;
            }
            Sitter s = target.sitters[target.size];
            s.kind = kind;
            s.line = line;
            s.hunger = hunger;
            s.cold = cold;
            s.worry = worry;
            s.sitDown(target.toldCrusts);
            target.size++;
        }

        private int here() {
            return place >= 0 && place < length ? bytes[place] : END;
        }

        private boolean isFigure() {
            return within(here(), '0', '9');
        }

        private void expect(int sign) {
            if (fault != NO_FAULT) {
                return;
            }
            if (here() == sign) {
                place++;
            } else {
                fault = place;
            }
        }

        private int readSort() {
            if (fault != NO_FAULT) {
                return 0;
            }
            for (int k = 0; k < SORTS.length; k++) {
                if (here() == SORTS[k]) {
                    place++;
                    return k + 1;
                }
            }
            fault = place;
            return 0;
        }

        private int readNumber(int least, int most) {
            if (fault != NO_FAULT) {
                return 0;
            }
            int start = place;
            int value = 0;
            // no value is ever over 99 here, so a third figure need not be added to be refused
            for (int figures = 0; figures < 2 && isFigure(); figures++) {
                value = 10 * value + here() - '0';
                place++;
            }
            if (place == start || isFigure() || !within(value, least, most)) {
                fault = start;
            }
            return value;
        }
    }

    /** The walls as they were ahead of the latest acts, in a ring. */
    private static final class History {
        private final Wall[] kept = new Wall[ACTS];
        private int next;
        int size;

        History() {
            for (int k = 0; k < ACTS; k++) {
                kept[k] = new Wall();
            }
        }

        void keep(Wall wall) {
            kept[next].takeFrom(wall);
            next = (next + 1) % ACTS;
            size = Math.min(ACTS, size + 1);
        }

        boolean giveBack(Wall wall) {
            if (size == 0) {
                return false;
            }
            next = (next + ACTS - 1) % ACTS;
            size--;
            wall.takeFrom(kept[next]);
            return true;
        }

        void forget() {
            size = 0;
        }
    }

    /** Nothing, or a row of a lane; items are held as longs that the lane has cut. */
    private static final class Sheet {
        private static final int NO_LANE = -1;

        int lane = NO_LANE;
        int size;
        final long[] items = new long[ITEMS];

        boolean isNothing() {
            return lane == NO_LANE;
        }

        void becomeNothing() {
            lane = NO_LANE;
            size = 0;
        }

        void begin(int newLane, int newSize) {
            lane = newLane;
            size = newSize;
            for (int k = 0; k < ITEMS; k++) {
                items[k] = 0;
            }
        }

        boolean holds(int i, int n) {
            return i >= 0 && n >= 0 && i <= size && n <= size - i;
        }

        void put(int i, long v) {
            if (holds(i, 1)) {
                items[i] = cut(v);
            }
        }

        private long cut(long v) {
            switch (lane) {
                case 0: return (byte) v;
                case 1: return (short) v;
                case 2: return (int) v;
                default: return v;
            }
        }

        boolean areWithin(int i, int n, int most) {
            if (!holds(i, n)) {
                return false;
            }
            for (int k = i; k < i + n; k++) {
                if (items[k] < 0 || items[k] > most) {
                    return false;
                }
            }
            return true;
        }
    }

    /** The hours that come, and what becomes of one in them; all is tried on a copy of him, whose hours go from 0. */
    private static final class Forecast {
        final int[] skies = new int[AHEAD];
        final boolean[] nights = new boolean[AHEAD];
        final int[] training = new int[4];
        int mealSets;
        int leastMeals;
        private final Sitter trial = new Sitter();

        void look(Wall wall) {
            int draw = wall.draw;
            for (int h = 0; h < AHEAD; h++) {
                draw = drawAfter(draw);
                skies[h] = draw % SKIES;
            }
            setNights(wall.hour, wall.duskHour);
        }

        void setNights(int hour, int dusk) {
            for (int h = 0; h < AHEAD; h++) {
                nights[h] = isDark(hour + h, dusk);
            }
        }

        private void pass(int h, boolean eats) {
            if (!within(h, 0, AHEAD - 1)) {
                return;
            }
            if (eats) {
                trial.eatCrust();
            }
            trial.passHour(skies[h], nights[h], h);
        }

        /** A set has bits for the first hours alone; a shift by 32 and more would find them again. */
        private static boolean isMeal(int h, int set) {
            return h < EAT_HOURS && (set >> h & 1) == 1;
        }

        int strainBehind(Sitter s, int n) {
            trial.takeFrom(s);
            for (int h = 0; h < n; h++) {
                pass(h, false);
            }
            return trial.strain;
        }

        void filmOnto(Sheet sheet, int i, Sitter s, int n) {
            trial.takeFrom(s);
            for (int h = 0; h < n; h++) {
                pass(h, false);
                sheet.put(i + h, trial.strain);
            }
        }

        int sittingBehind(Wall wall, int n) {
            int sum = 0;
            for (int k = 0; k < wall.size; k++) {
                strainBehind(wall.sitters[k], n);
                if (trial.sits()) {
                    sum++;
                }
            }
            return sum;
        }

        /** Behind how many of n hours one who sits is not down, if he eats ahead of those in the set. */
        int hoursSat(Sitter s, int n, int set) {
            trial.takeFrom(s);
            for (int h = 0; h < n && trial.sits(); h++) {
                pass(h, isMeal(h, set));
            }
            return trial.sits() ? n : trial.downHour;
        }

        /** 1 if one outlasts the other one, -1 if he is outlasted, 0 if neither. */
        int outlasts(Sitter one, Sitter other) {
            return Integer.compare(hoursSat(one, AHEAD, 0), hoursSat(other, AHEAD, 0));
        }

        int bestMeals(Sitter s, int n) {
            int best = 0;
            int most = hoursSat(s, n, 0);
            for (int set = 1; set < 1 << n; set++) {
                if (Integer.bitCount(set) > s.crusts) {
                    continue;
                }
                int hours = hoursSat(s, n, set);
                boolean fewer = Integer.bitCount(set) < Integer.bitCount(best);
                if (hours > most || hours == most && fewer) {
                    most = hours;
                    best = set;
                }
            }
            return best;
        }

        void findMeals(Sitter s, Sheet sheet, int i, int n) {
            mealSets = 0;
            leastMeals = NONE;
            for (int set = 0; set < 1 << n; set++) {
                if (Integer.bitCount(set) > s.crusts || !wouldShow(s, set, sheet, i, n)) {
                    continue;
                }
                if (mealSets == 0) {
                    leastMeals = set;
                }
                mealSets++;
            }
        }

        private boolean wouldShow(Sitter s, int set, Sheet sheet, int i, int n) {
            if (!sheet.holds(i, n)) {
                return false;
            }
            trial.takeFrom(s);
            for (int h = 0; h < n; h++) {
                pass(h, isMeal(h, set));
                if (sheet.items[i + h] != trial.strain) {
                    return false;
                }
            }
            return true;
        }

        /** Puts the cost, a, b, c of the best training in its row; false if none is enough. */
        boolean findTraining(Sitter s, int n) {
            boolean found = false;
            int mostLine = Math.min(TRAIN_LINE, MOST_LINE - s.line);
            for (int b = 0; b <= s.hunger; b++) {
                for (int c = 0; c <= s.cold; c++) {
                    int a = lineToAdd(s, n, b, c);
                    int cost = 2 * a + 5 * b + 3 * c;
                    if (a <= mostLine && (!found || isBetter(cost, a, b))) {
                        found = true;
                        training[0] = cost;
                        training[1] = a;
                        training[2] = b;
                        training[3] = c;
                    }
                }
            }
            return found;
        }

        private boolean isBetter(int cost, int a, int b) {
            if (cost != training[0]) {
                return cost < training[0];
            }
            return a != training[1] ? a < training[1] : b < training[2];
        }

        /** Strain never falls in these hours, so the line needs to be above the last one alone. */
        private int lineToAdd(Sitter s, int n, int b, int c) {
            trial.takeFrom(s);
            trial.line = MOST_STRAIN + 1;
            trial.hunger -= b;
            trial.cold -= c;
            for (int h = 0; h < n; h++) {
                pass(h, false);
            }
            return Math.max(0, trial.strain + 1 - s.line);
        }
    }

    /** Odds by the wind, counted in ways out of ten for each hour. */
    private static final class Chances {
        private final boolean[] nights = new boolean[ODDS_HOURS];
        private final int[][] oneGrows = new int[2][ODDS_HOURS];
        private final int[][] otherGrows = new int[2][ODDS_HOURS];
        private int hours;
        private int windTenths;
        private int oneLine;
        private int otherLine;

        void weigh(Wall wall, int n, int p) {
            hours = Math.min(n, ODDS_HOURS);
            windTenths = p;
            for (int h = 0; h < hours; h++) {
                nights[h] = isDark(wall.hour + h, wall.duskHour);
            }
        }

        long waysToOutlast(Sitter one, Sitter other) {
            for (int h = 0; h < hours; h++) {
                oneGrows[0][h] = one.grows(CLEAR, nights[h]);
                oneGrows[1][h] = one.grows(WIND, nights[h]);
                otherGrows[0][h] = other.grows(CLEAR, nights[h]);
                otherGrows[1][h] = other.grows(WIND, nights[h]);
            }
            oneLine = one.line;
            otherLine = other.line;
            return waysFrom(this, 0, one.strain, other.strain);
        }

        private static long waysFrom(Chances c, int hour, int strain, int otherStrain) {
            if (hour >= c.hours) {
                return 0;
            }
            long ways = 0;
            for (int wind = 0; wind < 2; wind++) {
                int tenths = wind == 1 ? c.windTenths : TENTHS - c.windTenths;
                int next = strain + c.oneGrows[wind][hour];
                int otherNext = otherStrain + c.otherGrows[wind][hour];
                if (tenths == 0 || next >= c.oneLine) {
                    continue;
                }
                boolean outlasted = otherNext >= c.otherLine;
                ways += tenths * (outlasted ? tensTo(c.hours - hour - 1) : waysFrom(c, hour + 1, next, otherNext));
            }
            return ways;
        }

        private static long tensTo(int n) {
            long power = 1;
            for (int k = 0; k < n; k++) {
                power *= TENTHS;
            }
            return power;
        }

        /** The whole is a power of ten, so by 2 and 5 alone it can be cut. */
        long lowest(long ways, int part) {
            long above = ways;
            long below = tensTo(hours);
            for (int k = 0; k < hours; k++) {
                if (above % 2 == 0 && below % 2 == 0) {
                    above /= 2;
                    below /= 2;
                }
                if (above % 5 == 0 && below % 5 == 0) {
                    above /= 5;
                    below /= 5;
                }
            }
            return part == 0 ? above : below;
        }
    }

    /** The duel by turns: each turn is played on copies of the two that are one level higher. */
    private static final class Seconds {
        private static final int LEVELS = 2 * GAME_HOURS + 1;
        private static final int EAT = 1;
        private static final int WORRY = 2;
        private static final int BEYOND = 1000000;

        private final Sitter[] ones = new Sitter[LEVELS];
        private final Sitter[] others = new Sitter[LEVELS];
        private Forecast sight;

        Seconds() {
            for (int k = 0; k < LEVELS; k++) {
                ones[k] = new Sitter();
                others[k] = new Sitter();
            }
        }

        int play(Sitter one, Sitter other, Forecast forecast, int n) {
            sight = forecast;
            ones[0].takeFrom(one);
            others[0].takeFrom(other);
            return edgeFrom(this, 0, Math.min(2 * n, LEVELS - 1));
        }

        private static int edgeFrom(Seconds game, int level, int last) {
            if (level >= last) {
                return game.edgeAt(level);
            }
            boolean onesTurn = level % 2 == 0;
            int best = onesTurn ? -BEYOND : BEYOND;
            for (int move = 0; move < GAME_MOVES; move++) {
                if (!game.isAllowed(level, move)) {
                    continue;
                }
                game.playMove(level, move);
                int edge = edgeFrom(game, level + 1, last);
                best = onesTurn ? Math.max(best, edge) : Math.min(best, edge);
            }
            return best;
        }

        private int edgeAt(int level) {
            if (!within(level, 0, LEVELS - 1)) {
                return 0;
            }
            Sitter one = ones[level];
            Sitter other = others[level];
            return one.line - one.strain - (other.line - other.strain);
        }

        private boolean isAllowed(int level, int move) {
            if (!within(level, 0, LEVELS - 2)) {
                return false;
            }
            boolean onesTurn = level % 2 == 0;
            Sitter own = onesTurn ? ones[level] : others[level];
            Sitter adversary = onesTurn ? others[level] : ones[level];
            if (move == EAT) {
                return own.canEat();
            }
            return move != WORRY || adversary.sits();
        }

        private void playMove(int level, int move) {
            if (!within(level, 0, LEVELS - 2)) {
                return;
            }
            Sitter one = ones[level + 1];
            Sitter other = others[level + 1];
            one.takeFrom(ones[level]);
            other.takeFrom(others[level]);
            boolean onesTurn = level % 2 == 0;
            if (move == EAT) {
                (onesTurn ? one : other).eatCrust();
            }
            if (move == WORRY) {
                (onesTurn ? other : one).news = BAD_NEWS;
            }
            if (!onesTurn && sight != null) {
                int h = level / 2;
                one.passHour(sight.skies[h], sight.nights[h], h);
                other.passHour(sight.skies[h], sight.nights[h], h);
            }
        }
    }

    /** The seconds' round among walls: from wall 0 to all others and back. */
    private static final class Tour {
        private static final int FAR = 1000000;

        private final int[] columns = new int[ROUND_WALLS];
        private final int[] rows = new int[ROUND_WALLS];
        private int walls;
        int shortest;
        int firstStop;

        void plan(Sheet sheet, int i, int n) {
            walls = 0;
            for (int k = 0; k < n && k < ROUND_WALLS && sheet.holds(i, 2 * k + 2); k++) {
                columns[k] = (int) sheet.items[i + 2 * k];
                rows[k] = (int) sheet.items[i + 2 * k + 1];
                walls++;
            }
            shortest = FAR;
            firstStop = 0;
            int others = (1 << walls) - 2;
            for (int first = 1; first < walls; first++) {
                int way = between(0, first) + wayFrom(this, first, others & ~(1 << first), 1);
                if (way < shortest) {
                    shortest = way;
                    firstStop = first;
                }
            }
        }

        private int between(int k, int m) {
            return Math.abs(columns[k] - columns[m]) + Math.abs(rows[k] - rows[m]);
        }

        /** The shortest way from a wall to those that are left and back to wall 0; each step leaves one less. */
        private static int wayFrom(Tour tour, int at, int left, int steps) {
            if (left == 0 || steps >= ROUND_WALLS) {
                return tour.between(at, 0);
            }
            int best = FAR;
            for (int next = 1; next < tour.walls; next++) {
                if ((left >> next & 1) == 1) {
                    int way = tour.between(at, next) + wayFrom(tour, next, left & ~(1 << next), steps + 1);
                    best = Math.min(best, way);
                }
            }
            return best;
        }
    }

    /** Who tells whom. */
    private static final class Gossip {
        private final int[] tellers = new int[PAIRS];
        private final int[] hearers = new int[PAIRS];
        private final int[] knowing = new int[PEOPLE];
        private int pairs;

        void hear(Sheet sheet, int i, int n) {
            pairs = 0;
            for (int k = 0; k < n && k < PAIRS && sheet.holds(i, 2 * k + 2); k++) {
                tellers[k] = (int) sheet.items[i + 2 * k];
                hearers[k] = (int) sheet.items[i + 2 * k + 1];
                pairs++;
            }
        }

        /** News needs at most as many rounds as there are people to come to the last of them. */
        int knowAtLast(int set) {
            int known = set;
            for (int around = 0; around < PEOPLE; around++) {
                for (int k = 0; k < pairs; k++) {
                    if ((known >> tellers[k] & 1) == 1) {
                        known |= 1 << hearers[k];
                    }
                }
            }
            return known;
        }

        int fewestToTell() {
            for (int person = 0; person < PEOPLE; person++) {
                knowing[person] = knowAtLast(1 << person);
            }
            int best = EVERYBODY;
            for (int set = 0; set < EVERYBODY; set++) {
                boolean fewer = Integer.bitCount(set) < Integer.bitCount(best);
                if (fewer && knownFrom(set) == EVERYBODY) {
                    best = set;
                }
            }
            return best;
        }

        private int knownFrom(int set) {
            int known = 0;
            for (int person = 0; person < PEOPLE; person++) {
                if ((set >> person & 1) == 1) {
                    known |= knowing[person];
                }
            }
            return known;
        }
    }
}
