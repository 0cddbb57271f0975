import java.lang.management.ManagementFactory;
import java.lang.reflect.Array;
import java.lang.reflect.Field;
import java.lang.reflect.Modifier;
import java.util.Collections;
import java.util.IdentityHashMap;
import java.util.Set;

/** All calls of a run share one room, so an object must be light and its calls must make nothing. */
public final class RoomTest {
    private static long objects = 0;
    private static long elements = 0;

    public static void main(String[] args) throws IllegalAccessException {
        CoalitionChecker x = new CoalitionChecker(4);
        count(x, Collections.newSetFromMap(new IdentityHashMap<>()));
        boolean light = objects < 200 && elements < 20000;
        System.out.println("RoomTest: an object is " + objects + " objects with " + elements + " elements");

        com.sun.management.ThreadMXBean threads =
                (com.sun.management.ThreadMXBean) ManagementFactory.getThreadMXBean();
        long thread = Thread.currentThread().getId();
        work(new CoalitionChecker(4), 0);
        long before = threads.getThreadAllocatedBytes(thread);
        int calls = work(x, 0);
        long made = threads.getThreadAllocatedBytes(thread) - before;
        System.out.println("RoomTest: " + calls + " calls made " + made + " bytes");
        // the asking itself makes a little; a single row of states per call would make far more
        if (!light || made > 2000) {
            System.out.println("RoomTest: too heavy");
            System.exit(1);
        }
    }

    private static void count(Object o, Set<Object> seen) throws IllegalAccessException {
        if (o == null || !seen.add(o)) {
            return;
        }
        objects++;
        if (o.getClass().isArray()) {
            elements += Array.getLength(o);
            if (o instanceof Object[]) {
                for (Object inside : (Object[]) o) {
                    count(inside, seen);
                }
            }
            return;
        }
        for (Field f : o.getClass().getDeclaredFields()) {
            if (!Modifier.isStatic(f.getModifiers())) {
                elements++;
                if (!f.getType().isPrimitive()) {
                    f.setAccessible(true);
                    count(f.get(o), seen);
                }
            }
        }
    }

    private static int type(CoalitionChecker x, char[] text) {
        for (int i = 0; i < text.length; i++) {
            x.type(text[i]);
        }
        x.read();
        return text.length + 1;
    }

    private static final char[][] TEXTS = {"<01>F(a|<23>Xb)".toCharArray(), "[0](!aU<1>Gb)".toCharArray(),
        "<012>G!<3>(aUb&[]Fc)".toCharArray(), "<0>(a".toCharArray()};

    private static int work(CoalitionChecker x, int start) {
        int calls = start;
        for (int s = 0; s < 12; s++) {
            x.addState();
            x.label(s, 'a' + s % 3, true);
            for (int agent = 0; agent < 4; agent++) {
                x.setActions(s, agent, 3);
                x.setAll(s, agent, agent % 3, (s + agent) % 12);
                x.plan(s, agent, s % 3);
                calls += 3;
            }
            x.setMove(s, 40, (s + 1) % 12);
            calls += 3;
        }
        for (char[] text : TEXTS) {
            calls += type(x, text);
        }
        for (int s = 0; s < 12; s++) {
            int f = s % 3;
            x.where(f, s % 4);
            x.holds(f, s);
            x.counterexample(f, 1);
            x.rank(f, s);
            x.strategy(f, s);
            x.enforced(f);
            x.play(f, s, 20, s);
            x.smallest(f, s);
            calls += 8;
            x.force(s, s, 99);
            x.reply(1, s, 1, 99);
            x.forced(s, s);
            x.classOf(s);
            x.fingerprint();
            calls += 5;
        }
        x.classes();
        x.adopt(0);
        x.undo();
        return calls + 3;
    }
}
