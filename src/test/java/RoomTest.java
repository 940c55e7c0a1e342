import java.lang.management.ManagementFactory;
import java.lang.reflect.Array;
import java.lang.reflect.Field;
import java.lang.reflect.Modifier;
import java.util.ArrayDeque;
import java.util.Collections;
import java.util.Deque;
import java.util.IdentityHashMap;
import java.util.Set;

/**
 * The room that a run has: 600,000 objects and arrays, 7.3 million fields and elements. An object makes all that it
 * needs in its constructor, and no call makes anything.
 */
public final class RoomTest {
    /** Each time is some 130 calls, and an object is good for 512. */
    private static final int TIMES = 2;
    private static final com.sun.management.ThreadMXBean THREADS =
        (com.sun.management.ThreadMXBean) ManagementFactory.getThreadMXBean();
    private static final Due due = new Due();
    private static int objects;
    private static int parts;

    public static void main(String[] args) throws IllegalAccessException {
        whatAnObjectHolds();
        whatCallsMake();
        due.end();
    }

    private static void whatAnObjectHolds() throws IllegalAccessException {
        WallPatience x = new WallPatience();
        count(x);
        int objectsNew = objects;
        int partsNew = parts;
        due.isTrue(objects + " objects are few", objects <= 300);
        due.isTrue(parts + " fields and elements are few", parts <= 3000);
        playAll(x);
        count(x);
        due.is("objects behind many calls", objects, objectsNew);
        due.is("fields and elements behind many calls", parts, partsNew);
    }

    /** All objects and arrays that can be reached, each once. */
    private static void count(Object root) throws IllegalAccessException {
        Set<Object> seen = Collections.newSetFromMap(new IdentityHashMap<>());
        Deque<Object> left = new ArrayDeque<>();
        left.push(root);
        parts = 0;
        while (!left.isEmpty()) {
            Object o = left.pop();
            if (!seen.add(o)) {
                continue;
            }
            if (o.getClass().isArray()) {
                parts += Array.getLength(o);
                for (int k = 0; k < Array.getLength(o) && !o.getClass().getComponentType().isPrimitive(); k++) {
                    pushUnlessNull(left, Array.get(o, k));
                }
                continue;
            }
            for (Field f : o.getClass().getDeclaredFields()) {
                if (Modifier.isStatic(f.getModifiers())) {
                    continue;
                }
                parts++;
                f.setAccessible(true);
                if (!f.getType().isPrimitive()) {
                    pushUnlessNull(left, f.get(o));
                }
            }
        }
        objects = seen.size();
    }

    private static void pushUnlessNull(Deque<Object> left, Object o) {
        if (o != null) {
            left.push(o);
        }
    }

    private static void whatCallsMake() {
        due.isTrue("what is made is counted", THREADS.isThreadAllocatedMemoryEnabled());
        WallPatience x = new WallPatience();
        playAll(x);
        THREADS.getCurrentThreadAllocatedBytes();
        long none = madeBy(x, 0);
        due.is("bytes made by all calls", madeBy(x, TIMES), none);
    }

    private static long madeBy(WallPatience x, int times) {
        long before = THREADS.getCurrentThreadAllocatedBytes();
        for (int k = 0; k < times; k++) {
            playAll(x);
        }
        return THREADS.getCurrentThreadAllocatedBytes() - before;
    }

    /** Every call of the face, the dearest arguments among them. */
    private static void playAll(WallPatience x) {
        tell(x);
        x.image(0);
        act(x);
        x.restore(0);
        foretell(x);
        fillSheets(x);
    }

    private static final String TOLD = "w9,9;p99,1,9,1;h98,1,8,1;m97,1,7,1;y96,1,6,1;s95,1,5,1;p10,9,9,9;";

    private static void tell(WallPatience x) {
        for (int k = 0; k < TOLD.length(); k++) {
            x.feed(TOLD.charAt(k));
        }
        x.wall();
        x.feed('q');
        x.wall();
        x.sitter(0, 1);
        x.growth(0, 1);
        x.as(0, 1);
        x.count(5);
    }

    private static void act(WallPatience x) {
        x.hours(24);
        x.crust(0);
        x.news(0, 2);
        x.praise(0);
        x.cloak(0, 1);
        x.heir(5);
        x.undo();
        x.seed(5);
    }

    private static void foretell(WallPatience x) {
        x.strain(0, 60);
        x.down(0);
        x.duel(0, 1);
        x.honour(0);
        x.eat(0, 8, 1);
        x.train(0, 40, 0);
        x.dusk(40);
        x.odds(0, 1, 10, 5, 1);
        x.challenge(0, 10, 5);
        x.game(0, 1, 3);
    }

    private static void fillSheets(WallPatience x) {
        for (int sheet = 0; sheet < 4; sheet++) {
            x.sheet(sheet, sheet, 24);
            x.item(sheet, sheet, 3, 5);
            x.round(sheet, sheet, 0, 7, 1);
            x.goesOn(sheet, sheet, 0, 12, 1);
            x.told(sheet, sheet, 0, 12, 1);
            x.copy(sheet, 0, sheet, 1, 23);
            x.film(0, 24, sheet, sheet, 0);
            x.ate(0, sheet, sheet, 0, 8, 0);
        }
        x.drop(0);
    }
}
