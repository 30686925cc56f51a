import java.lang.management.ManagementFactory;
import java.lang.reflect.Array;
import java.lang.reflect.Field;
import java.lang.reflect.Modifier;
import java.util.ArrayDeque;
import java.util.Collections;
import java.util.Deque;
import java.util.IdentityHashMap;
import java.util.Set;

/** All calls of one run live in one room: an object is small, and its calls make nothing new. */
public final class RoomTest {
    private static final String TRUG = "trug 200 9;sorrow 3 6 5;sorrow 4 9 8;sorrow 2 4 3;sorrow 5 7 1;under 1 0;"
            + "under 2 3;under 3 2;carrier 6;carrier 4;carrier 9";
    private static Trial t;

    public static void main(String[] args) throws Exception {
        t = new Trial("RoomTest");
        sizeOfOne();
        nothingNew();
        t.close();
    }

    private static void sizeOfOne() throws Exception {
        Set<Object> seen = Collections.newSetFromMap(new IdentityHashMap<>());
        Deque<Object> open = new ArrayDeque<>();
        open.add(new BeanTrug());
        long elements = 0;
        while (!open.isEmpty()) {
            Object o = open.remove();
            if (!seen.add(o)) {
                continue;
            }
            if (o.getClass().isArray()) {
                int n = Array.getLength(o);
                elements += n;
                for (int i = 0; i < n && !o.getClass().getComponentType().isPrimitive(); i++) {
                    open.add(Array.get(o, i));
                }
                continue;
            }
            for (Field f : o.getClass().getDeclaredFields()) {
                if (!Modifier.isStatic(f.getModifiers())) {
                    elements++;
                    f.setAccessible(true);
                    Object value = f.get(o);
                    if (value != null && !f.getType().isPrimitive()) {
                        open.add(value);
                    }
                }
            }
        }
        System.out.println("RoomTest: a new object is " + seen.size() + " objects, " + elements + " fields and elements");
        t.holds("few objects", seen.size() < 600);
        t.holds("few elements", elements < 20000);
    }

    private static void nothingNew() {
        BeanTrug x = Trial.with(TRUG);
        byte[][] texts = {"lift time + minute if not [left < 9 or over = 1]; lift 3 * deep - step".getBytes(), TRUG.getBytes()};
        com.sun.management.ThreadMXBean bean = (com.sun.management.ThreadMXBean) ManagementFactory.getThreadMXBean();
        long most = 0;
        for (int round = 0; round < 5; round++) {
            long before = bean.getCurrentThreadAllocatedBytes();
            for (int i = 0; i < 200; i++) {
                ask(x);
            }
            most = bean.getCurrentThreadAllocatedBytes() - before;
            Trial.onTape(x, texts[0]);
            x.force(x.rule());
        }
        t.holds("200 rounds of calls made " + most + " bytes", most < 20000);
    }

    private static void ask(BeanTrug x) {
        x.feed(1, 2, 3, 4, 5);
        x.trug();
        x.end(0);
        x.note(-1, 0);
        x.note(1, 0);
        x.image(1);
        x.step();
        x.take(1);
        x.await(1);
        x.lay(2, 3);
        x.lighten(2, 7);
        x.ahead(50, 1);
        x.when(2, 1);
        x.dusk(1);
        x.order(1);
        x.chain(1);
        x.rings();
        x.taken(1);
        x.slack(3);
        x.carry(2);
        x.pole(1);
        x.light(3);
        x.took(2, 0);
        x.game(1);
        x.pence(77, 0);
        x.ruled(1);
        x.look(1);
        x.years(9, 1);
        x.count(11);
        x.undo();
        x.back(1);
    }
}
