import java.util.ArrayList;
import java.util.List;
import java.util.function.Consumer;

/**
 * A past that can be made again and again, so that one object can be asked what another one is not asked; and all that
 * calls can tell of an object then. Objects are good for 512 calls, so it is told in several ways, an object for each.
 */
final class Scene {
    private static final int SITTERS = 6;
    private static final int SCRATCH = 3;

    private final Consumer<WallPatience> past;
    private final List<List<Long>> seen = new ArrayList<>();

    Scene(Consumer<WallPatience> past) {
        this.past = past;
        for (int way = 0; way < ways(); way++) {
            seen.add(see(make(), way));
        }
    }

    WallPatience make() {
        WallPatience x = new WallPatience();
        past.accept(x);
        return x;
    }

    static int ways() {
        return 5;
    }

    /** Whether calls leave all as it was. */
    boolean staysBehind(List<Call> calls) {
        for (int way = 0; way < ways(); way++) {
            WallPatience x = make();
            for (Call c : calls) {
                c.askOf(x);
            }
            if (!see(x, way).equals(seen.get(way))) {
                return false;
            }
        }
        return true;
    }

    /** Whether another past comes to the same. */
    boolean isLike(Scene other) {
        return seen.equals(other.seen);
    }

    private static List<Long> see(WallPatience x, int way) {
        List<Long> told = new ArrayList<>();
        switch (way) {
            case 0 -> seeWall(x, told);
            case 1 -> seeUndone(x, told);
            case 2 -> seeRows(x, told);
            case 3 -> seeTape(x, told);
            default -> seeImages(x, told);
        }
        return told;
    }

    private static void seeWall(WallPatience x, List<Long> told) {
        for (int what = 0; what <= 9; what++) {
            told.add((long) x.count(what));
        }
        for (int one = 0; one < SITTERS; one++) {
            for (int what = 0; what <= 10; what++) {
                told.add((long) x.sitter(one, what));
            }
            told.add((long) x.down(one));
            told.add((long) x.strain(one, 60));
        }
        told.add((long) x.seed(1));
    }

    private static void seeUndone(WallPatience x, List<Long> told) {
        for (int k = 0; k < 21; k++) {
            told.add((long) x.undo());
            told.add((long) x.count(2));
            told.add((long) x.count(5));
            for (int one = 0; one < 4; one++) {
                told.add((long) x.sitter(one, 5));
                told.add((long) x.growth(one, 1));
            }
            told.add((long) x.seed(1));
        }
    }

    /** The lane and the size of each row, and its items as far as 0 .. 99, by ways to them and back. */
    private static void seeRows(WallPatience x, List<Long> told) {
        int[] lanes = new int[4];
        for (int sheet = 0; sheet < 4; sheet++) {
            for (int lane = 0; lane < 4; lane++) {
                long answer = x.item(sheet, lane, -1, 0);
                told.add(answer);
                if (answer == WallPatience.INDEX) {
                    lanes[sheet] = lane;
                }
            }
        }
        told.add((long) x.drop(SCRATCH));
        for (int sheet = 0; sheet < SCRATCH; sheet++) {
            x.sheet(SCRATCH, lanes[sheet], 4);
            for (int i = 0; i < 25; i++) {
                int copied = x.copy(sheet, i, SCRATCH, 2, 1);
                told.add((long) copied);
                if (copied < 0) {
                    break;
                }
                told.add((long) x.round(SCRATCH, lanes[sheet], 0, 2, 0));
            }
            told.add((long) x.drop(sheet));
        }
    }

    /** What is on the tape is told by what it comes to with a sitter behind it. */
    private static void seeTape(WallPatience x, List<Long> told) {
        for (char c : "p31,2,3,4;".toCharArray()) {
            told.add((long) x.feed(c));
        }
        told.add((long) x.wall());
        seeWall(x, told);
    }

    private static void seeImages(WallPatience x, List<Long> told) {
        for (int k = 0; k < 2; k++) {
            told.add((long) x.restore(k));
            seeWall(x, told);
        }
    }
}
