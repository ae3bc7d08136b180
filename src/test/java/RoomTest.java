import com.sun.management.ThreadMXBean;
import java.lang.management.ManagementFactory;
import java.lang.reflect.Array;
import java.lang.reflect.Field;
import java.lang.reflect.Modifier;
import java.util.Collections;
import java.util.IdentityHashMap;
import java.util.Map;
import java.util.Set;
import java.util.TreeMap;
import java.util.function.ToIntFunction;

/** How much room an object takes, and that calls make nothing new (LANGUAGE.md, rule 12). */
public final class RoomTest {
    // Far below the room of a run, 600,000 and 7.3 million, so that it holds many objects.
    private static final int MOST_OBJECTS = 60;
    private static final int MOST_ELEMENTS = 1000;
    private static final int ROUNDS = 5;

    private static final ThreadMXBean THREADS = (ThreadMXBean) ManagementFactory.getThreadMXBean();

    private int objects = 0;
    private int elements = 0;
    private final Set<Object> seen = Collections.newSetFromMap(new IdentityHashMap<>());

    private RoomTest() {
    }

    public static void main(String[] args) throws IllegalAccessException {
        isSmall("a new one", new RoundThrow());
        isSmall("a full one with two images", full());
        callsMakeNothing();
        Script.end();
    }

    private static RoundThrow full() {
        RoundThrow x = new RoundThrow();
        Script.prepare(x, "set 1 1\n" + "text +1.1\n".repeat(10) + "push\n" + "text +1.1\n".repeat(10)
                + "sit 100 5\nsit 200 9\n".repeat(4) + "film 7 -9\nfilm 50 60\n".repeat(12) + "image 0\nimage 1\n");
        return x;
    }

    private static void isSmall(String title, RoundThrow x) throws IllegalAccessException {
        RoomTest room = new RoomTest();
        room.count(x);
        Script.due(title + ": " + room.objects + " objects", room.objects <= MOST_OBJECTS ? 1 : 0, 1);
        Script.due(title + ": " + room.elements + " elements", room.elements <= MOST_ELEMENTS ? 1 : 0, 1);
    }

    /** An object or array and all that it holds. */
    private void count(Object thing) throws IllegalAccessException {
        if (thing == null || !seen.add(thing)) {
            return;
        }
        objects++;
        if (thing.getClass().isArray()) {
            elements += Array.getLength(thing);
            for (int i = 0; i < Array.getLength(thing) && thing instanceof Object[]; i++) {
                count(Array.get(thing, i));
            }
            return;
        }
        for (Field field : thing.getClass().getDeclaredFields()) {
            if (!Modifier.isStatic(field.getModifiers())) {
                elements++;
                field.setAccessible(true);
                if (!field.getType().isPrimitive()) {
                    count(field.get(thing));
                }
            }
        }
    }

    /** Each call, with numbers that are taken. */
    private static Map<String, ToIntFunction<RoundThrow>> calls() {
        Map<String, ToIntFunction<RoundThrow>> calls = new TreeMap<>();
        calls.put("set", x -> x.set(0, 120));
        calls.put("say", x -> x.wipe() + x.say('+') + x.say('1'));
        calls.put("wipe", x -> x.wipe());
        calls.put("fault", x -> x.fault());
        calls.put("push", x -> x.push());
        calls.put("turn", x -> x.turn(60, 1));
        calls.put("sit", x -> x.sit(100, 5));
        calls.put("point", x -> x.point(1, 60, 3));
        calls.put("ball", x -> x.ball(1, 200, 5, 60, 3));
        calls.put("caught", x -> x.caught(0, 30, 5, 1));
        calls.put("all", x -> x.all(0, 1, 3));
        calls.put("loops", x -> x.loops(0, 30, 5));
        calls.put("rolled", x -> x.rolled(10, 20, 30, 5, 60, 0));
        calls.put("off", x -> x.off(10, 20, 30, 5));
        calls.put("leans", x -> x.leans(1000));
        calls.put("stays", x -> x.stays(9));
        calls.put("hut", x -> x.hut(9, 9, 9));
        calls.put("film", x -> x.film(7, 7));
        calls.put("clear", x -> x.clear() + x.film(1, 1) + x.film(2, 5) + x.film(4, 4));
        calls.put("bent", x -> x.bent(60));
        calls.put("turned", x -> x.turned());
        calls.put("span", x -> x.span(9, 1));
        calls.put("learns", x -> x.learns(0, 40, 1, 0));
        calls.put("along", x -> x.along(0, 40, 1, 198));
        calls.put("image", x -> x.image(0) + x.image(1));
        calls.put("restore", x -> x.restore(0) + x.restore(1));
        calls.put("told", x -> x.told(8));
        return calls;
    }

    private static void callsMakeNothing() {
        Map<String, ToIntFunction<RoundThrow>> calls = calls();
        Script.due("all calls are looked at", calls.size(), 27);
        RoundThrow x = full();
        Script.due("what is made is seen", made(y -> new RoundThrow().told(0), x) > 0 ? 1 : 0, 1);
        for (String name : calls.keySet()) {
            Script.due(name + " makes bytes", made(calls.get(name), x), 0);
        }
    }

    /** Bytes that a call makes; the least of some rounds, as the machine makes some of its own at first. */
    private static long made(ToIntFunction<RoundThrow> call, RoundThrow x) {
        long least = Long.MAX_VALUE;
        for (int round = 0; round < ROUNDS; round++) {
            long before = THREADS.getCurrentThreadAllocatedBytes();
            call.applyAsInt(x);
            least = Math.min(least, THREADS.getCurrentThreadAllocatedBytes() - before);
        }
        return least;
    }
}
