import java.lang.management.ManagementFactory;
import java.lang.reflect.Array;
import java.lang.reflect.Field;
import java.lang.reflect.Modifier;
import java.util.ArrayDeque;
import java.util.Collections;
import java.util.IdentityHashMap;
import java.util.Set;

/** What an object holds is small, and its calls make nothing new: all calls of a run share one room. */
public final class RoomTest {
    private static int objects = 0;
    private static int elements = 0;

    public static void main(String[] args) throws Exception {
        count(new FinerSteps());
        System.out.println("a new object: " + objects + " objects, " + elements + " fields and elements");
        boolean small = objects < 3000 && elements < 60000;
        FinerSteps warm = new FinerSteps();
        use(warm);
        FinerSteps x = new FinerSteps();
        com.sun.management.ThreadMXBean bean = (com.sun.management.ThreadMXBean) ManagementFactory.getThreadMXBean();
        long id = Thread.currentThread().getId();
        bean.getThreadAllocatedBytes(id);
        long before = bean.getThreadAllocatedBytes(id);
        use(x);
        long made = bean.getThreadAllocatedBytes(id) - before;
        System.out.println("its calls made " + made + " bytes");
        small &= made < 4096;
        if (!small) {
            System.out.println("too much");
            System.exit(1);
        }
    }

    private static final int[] WORDS = words("machine a;var n from 0 to 9 at 0;var m from 0 to 9 at 0;"
            + "event go any 0 to 9 when 1 = 1 do n = pick;event up when m < 9 do m = m + 1;"
            + "machine b;var x from 0 to 9 at 0;var y from 0 to 9 at 0;law x < n + 1 or y = m;"
            + "event hop of go any 0 to 9 when x < 9 do x = pick;event slip when y > 2 do y = y - 1;variant y;"
            + "machine c;var z from 0 to 9 at 0;var w from 0 to 9 at 0;"
            + "event run of hop any 0 to 9 when z < 9 do z = pick;event rest when w > 2 do w = w - 1;variant w");

    private static int[] words(String text) {
        int[] out = new int[(text.length() + 19) / 20 * 5];
        for (int i = 0; i < out.length * 4; i++) {
            out[i / 4] = out[i / 4] << 8 | (i < text.length() ? text.charAt(i) : ' ');
        }
        return out;
    }

    private static void use(FinerSteps x) {
        for (int round = 0; round < 3; round++) {
            for (int i = 0; i < WORDS.length; i += 5) {
                x.feed(WORDS[i], WORDS[i + 1], WORDS[i + 2], WORDS[i + 3], WORDS[i + 4]);
            }
            if (x.machines(x.size()) != 3) {
                throw new IllegalStateException("fault " + x.fault() + " at " + x.where());
            }
            for (int m = 0; m < 3; m++) {
                for (int e = 0; e < 2; e++) {
                    for (int d = 0; d < 5; d++) {
                        x.duty(m, e, d);
                        x.write();
                        x.cases(m, e, d);
                    }
                    x.aside(m, e, true);
                    x.open(m);
                    x.aside(m, e, false);
                }
                x.run(m);
                x.draws(40, 7);
                x.now(4);
                x.reach(m);
                x.steps(m, 7);
                x.stuck(m);
                x.unsound(m);
            }
        }
    }

    private static void count(Object root) throws Exception {
        Set<Object> seen = Collections.newSetFromMap(new IdentityHashMap<>());
        ArrayDeque<Object> left = new ArrayDeque<>();
        left.add(root);
        seen.add(root);
        while (!left.isEmpty()) {
            Object o = left.remove();
            objects++;
            if (o.getClass().isArray()) {
                int length = Array.getLength(o);
                elements += length;
                for (int i = 0; i < length && !o.getClass().getComponentType().isPrimitive(); i++) {
                    visit(Array.get(o, i), seen, left);
                }
                continue;
            }
            for (Field f : o.getClass().getDeclaredFields()) {
                if (!Modifier.isStatic(f.getModifiers())) {
                    elements++;
                    f.setAccessible(true);
                    if (!f.getType().isPrimitive()) {
                        visit(f.get(o), seen, left);
                    }
                }
            }
        }
    }

    private static void visit(Object o, Set<Object> seen, ArrayDeque<Object> left) {
        if (o != null && seen.add(o)) {
            left.add(o);
        }
    }
}
