import com.sun.management.ThreadMXBean;
import java.lang.management.ManagementFactory;
import java.lang.reflect.Array;
import java.lang.reflect.Field;
import java.lang.reflect.Modifier;
import java.util.Collections;
import java.util.IdentityHashMap;
import java.util.Set;

/** All calls of a run live in one room: what an object holds, and that no call makes anything new. */
public final class RoomTest {
    private static final int CALLS = 512;
    private static final int ROOM_OBJECTS = 600000, ROOM_FIELDS = 7300000;
    private static final int MOST_CLASSES = 12, MOST_FIELDS = 20;

    private static int wrong = 0;
    private static long answers = 0;

    private int objects;
    private int fields;

    public static void main(String[] args) throws Exception {
        BeliefWeb web = new BeliefWeb();
        RoomTest before = count(web);
        // A run may make an object in each of its calls and still stay in its room.
        check(before.objects * CALLS <= ROOM_OBJECTS, "an object is " + before.objects + " objects and arrays");
        check(before.fields * CALLS <= ROOM_FIELDS, "an object is " + before.fields + " fields and elements");
        build(web);
        for (int round = 0; round < 20; round++) everyCall(web, round);
        RoomTest after = count(web);
        check(after.objects == before.objects && after.fields == before.fields, "an object that is used stays as large as it was");
        callsMakeNothing();
        classes();
        System.out.println(wrong == 0 ? "all stays in its room (" + before.fields + " fields and elements an object)" : wrong + " things do not hold");
        if (wrong != 0) System.exit(1);
    }

    private static void check(boolean holds, String what) {
        if (!holds) {
            wrong++;
            System.out.println("does not hold: " + what);
        }
    }

    private static RoomTest count(Object o) throws Exception {
        RoomTest room = new RoomTest();
        room.add(o, Collections.newSetFromMap(new IdentityHashMap<>()));
        return room;
    }

    private void add(Object o, Set<Object> met) throws Exception {
        if (o == null || !met.add(o)) return;
        objects++;
        if (o.getClass().isArray()) {
            fields += Array.getLength(o);
            if (o instanceof Object[]) for (Object part : (Object[]) o) add(part, met);
            return;
        }
        for (Field f : o.getClass().getDeclaredFields()) {
            if (Modifier.isStatic(f.getModifiers())) continue;
            fields++;
            if (f.getType().isPrimitive()) continue;
            f.setAccessible(true);
            add(f.get(o), met);
        }
    }

    /** The machine counts the bytes that this thread takes; the calls are made twice, to be past all loading. */
    private static void callsMakeNothing() {
        ThreadMXBean machine = (ThreadMXBean) ManagementFactory.getThreadMXBean();
        long taken = 0;
        for (int time = 0; time < 2; time++) {
            BeliefWeb web = new BeliefWeb();
            build(web);
            long start = machine.getCurrentThreadAllocatedBytes();
            for (int round = 0; round < 13; round++) everyCall(web, round);
            taken = machine.getCurrentThreadAllocatedBytes() - start;
        }
        check(taken < 256, "some 500 calls make objects of " + taken + " bytes");
    }

    private static void build(BeliefWeb web) {
        for (int x = 0; x < 12; x++) answers += web.thing(2, 2);
        for (int x = 3; x < 12; x++) for (int p = x - 3; p < x; p++) answers += web.arrow(p, x);
        for (int x = 0; x < 3; x++) for (int v = 0; v < 2; v++) answers += web.weight(x, 0, v, 1);
        answers += web.options(6) + web.worth(1, 2, 1, 500);
    }

    private static void everyCall(BeliefWeb web, int round) {
        int x = round % 12;
        answers += web.thing(2, 1) + web.arrow(11, 0) + web.cut(8, 11) + web.arrow(8, 11) + web.undo() + web.undo();
        answers += web.weight(x, 0, 1, 2) + web.undo() + web.told(x, 0, 0) + web.about(x, round % 7) + web.parent(x, 2) + web.sound();
        answers += web.see(x, 0) + web.act(x, 0) + web.act(x, -1) + web.force(x, 0, 1 + round % 3);
        answers += web.chance() + web.ask(x, 0) + web.both(x, 0, 11, 0) + web.up() + web.down() + web.most(x);
        answers += web.likeliest(0) + web.likeliest(9) + web.at(x) + web.wholes() + web.apart(0, x);
        answers += web.options(6) + web.worth(0, x, 0, round) + web.expected(1) + web.best() + web.gain(x) + web.next();
        answers += web.count(0) + web.count(1) + web.count(2) + web.count(3);
    }

    private static void classes() {
        Class<?>[] inside = BeliefWeb.class.getDeclaredClasses();
        check(inside.length < MOST_CLASSES, "the file has " + (inside.length + 1) + " classes");
        fewFields(BeliefWeb.class);
        for (Class<?> c : inside) fewFields(c);
    }

    private static void fewFields(Class<?> c) {
        int many = 0;
        for (Field f : c.getDeclaredFields()) if (!Modifier.isStatic(f.getModifiers())) many++;
        check(many <= MOST_FIELDS, c.getName() + " has " + many + " fields");
    }
}
