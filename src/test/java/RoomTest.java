import com.sun.management.ThreadMXBean;
import java.lang.management.ManagementFactory;
import java.lang.reflect.Array;
import java.lang.reflect.Field;
import java.lang.reflect.Modifier;
import java.util.ArrayDeque;
import java.util.Collections;
import java.util.IdentityHashMap;
import java.util.Set;

/** What an object takes of the room that all calls of a run live in, and that no call takes more. */
final class RoomTest {
    private static final Due due = new Due();

    public static void main(String[] args) throws Exception {
        size();
        callsMakeNothing();
        due.end();
    }

    private static void size() throws Exception {
        StepRings x = Due.made("ab5", "ag5");
        Set<Object> seen = Collections.newSetFromMap(new IdentityHashMap<>());
        ArrayDeque<Object> open = new ArrayDeque<>();
        open.add(x);
        seen.add(x);
        long elements = 0;
        while (!open.isEmpty()) {
            Object o = open.remove();
            if (o.getClass().isArray()) {
                elements += Array.getLength(o);
                for (int i = 0; i < Array.getLength(o) && !o.getClass().getComponentType().isPrimitive(); i++) {
                    if (Array.get(o, i) != null && seen.add(Array.get(o, i))) {
                        open.add(Array.get(o, i));
                    }
                }
                continue;
            }
            for (Field f : o.getClass().getDeclaredFields()) {
                if (Modifier.isStatic(f.getModifiers())) {
                    continue;
                }
                elements++;
                f.setAccessible(true);
                if (!f.getType().isPrimitive() && f.get(o) != null && seen.add(f.get(o))) {
                    open.add(f.get(o));
                }
            }
        }
        System.out.println("an object is " + seen.size() + " objects and arrays, " + elements + " fields and elements");
        due.holds("objects and arrays", seen.size() <= 100);
        due.holds("fields and elements", elements <= 3000);
    }

    private static void callsMakeNothing() {
        ThreadMXBean bean = (ThreadMXBean) ManagementFactory.getThreadMXBean();
        long me = Thread.currentThread().getId();
        StepRings warm = Due.made("ab5", "ag5");
        all(warm);
        bean.getThreadAllocatedBytes(me);
        StepRings x = Due.made("a+3b20g,b-2c15,cd9,da30g,ac50", "ag9999,bc9999,co9999,dp9999,ag5,bg5,cg5,dg5");
        long before = bean.getThreadAllocatedBytes(me);
        for (int i = 0; i < 100; i++) {
            all(x);
        }
        long after = bean.getThreadAllocatedBytes(me);
        System.out.println("calls made " + (after - before) + " bytes");
        // asking for the number may take some itself
        due.holds("calls make nothing", after - before < 1000);
    }

    private static void all(StepRings x) {
        x.image();
        x.way(3, 4, 5, 1);
        x.gate(0, true);
        x.told(0, 3);
        x.person(0, 0, 5);
        x.of(0, 0);
        x.costs(0, 0, 0);
        x.far(0, 0, 2);
        x.given(0, 400);
        x.rule(1);
        for (int i = 0; i < 6; i++) {
            x.errand(i);
        }
        x.tour(0, -1);
        x.tour(0, 5);
        x.parted(255);
        x.wells(3, 99999, -1);
        x.meet(0, 1, 1);
        x.hold(0, 0, 40);
        x.stops(0, 2);
        x.go(0, 2);
        x.carry(0, 2, 1);
        x.lend(0, 1, 5);
        x.pay(1, 0, 5);
        x.owes(1, 0);
        x.month();
        x.rest();
        x.count(3);
        x.sheet(0, 1, 24);
        x.item(0, 1, 0, 5);
        x.film(0, 1, 0);
        x.lies(0, 1, 0);
        x.drop(0);
        x.restore();
        x.type(0x61673561676735L, 7);
        x.town();
        x.type(0x616235L, 3);
        x.people();
        x.type(0x6162352c626331L, 7);
        x.town();
        x.type(0x6167352c626331L, 7);
        x.people();
        x.restore();
    }
}
