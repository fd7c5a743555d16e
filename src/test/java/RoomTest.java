import java.lang.management.ManagementFactory;
import java.lang.reflect.Array;
import java.lang.reflect.Field;
import java.lang.reflect.Modifier;
import java.util.ArrayDeque;
import java.util.Collections;
import java.util.Deque;
import java.util.IdentityHashMap;
import java.util.Set;

/**
 * All calls of a run live in one room, so calls make no objects, but for an image's first and the first question about
 * a house's evening, and any arguments in any state are answered without a throw of the machine.
 */
public final class RoomTest {
    private static final int[] EDGES = {Integer.MIN_VALUE, Integer.MIN_VALUE + 9, -101, -11, -2, -1, 0, 1, 2, 5, 6, 9, 10, 15,
        16, 20, 23, 24, 25, 29, 30, 40, 59, 60, 61, 69, 70, 99, 100, 123, 124, 199, 200, 599, 600, 601, Integer.MAX_VALUE};
    private static final String FULL = "steps 24;keep 99;flat 0 9;flat 5 9;flat 9 9;flat 14 9;flat 19 9;flat 23 9;"
        + "person 9 9 1;person 8 8 1;person 7 7 1;person 6 6 1;person 5 5 1;person 4 4 4;"
        + "walk 0 0 0 23 0 23 0 23 0 23 0;walk 1 0 0 23 0 23 0 23 0 23 0;walk 2 0 0 23 0 23 0 23 0 23 0;"
        + "walk 3 0 0 23 0 23 0 23 0 23 0;walk 4 0 0 23 0 23 0 23 0 23 0;walk 5 0 0 23 1 23 1 23 1 23 1;"
        + "change 0 9 1;change 1 9 1;change 2 9 1;change 3 9 1;";
    private static final String HEARD = "heard 0 1 9 -;heard 1 2 9 9;heard 2 3 9 8;heard 3 4 9 -;heard 4 5 9 -;"
        + "heard 5 6 9 -;heard 0 7 9 -;heard 1 8 9 -;heard 2 8 9 -;heard 3 8 9 -;";
    private static int wrong = 0;
    private static long sum = 0;

    private static void check(boolean right, String what) {
        if (!right) {
            wrong++;
            System.out.println("not as due: " + what);
        }
    }

    private static int tell(EchoStair x, int sort, int at, String text) {
        x.end(0);
        for (int i = 0; i < text.length(); i += 20) {
            int[] five = new int[5];
            for (int j = 0; j < 20; j++) {
                five[j / 4] = five[j / 4] << 8 | (i + j < text.length() ? text.charAt(i + j) : 0);
            }
            x.feed(five[0], five[1], five[2], five[3], five[4]);
        }
        x.end(text.length());
        return x.text(sort, at);
    }

    private static EchoStair full() {
        EchoStair x = new EchoStair();
        check(tell(x, 0, -1, FULL) == 0 && tell(x, 0, -1, FULL) == 1, "the full house");
        check(tell(x, 1, -1, HEARD) == 0 && tell(x, 1, -1, HEARD) == 1, "the full reading");
        check(x.image(0) && x.image(1) && x.image(2), "images");
        return x;
    }

    /** Every call, with one argument after the other at every edge. */
    private static void call(EchoStair x, int a) {
        for (int b : EDGES) {
            sum += x.text(a, b == 0 || b == 1 ? b : 7) + x.house(a, b) + x.ends(a, b) + x.apart(a, b) + x.ring(a, b) + x.look(a, b);
            sum += x.person(0, a, b) + x.person(a, 0, b) + x.tread(0, a, b) + x.tread(a, b, 0) + x.where(0, a, b);
            sum += x.where(a, 0, b) + x.note(0, a, b, 0) + x.note(0, 0, a, b) + x.note(a, 0, 0, b) + x.worth(0, a, b);
            sum += x.worth(a, b, 1) + x.sound(0, a, b) + x.sound(a, b, 0) + x.makers(a, b, 0) + x.makers(0, a, b);
            sum += x.track(a, b, 0) + x.track(0, a, b) + x.spots(a, b, 0, 0) + x.spots(0, 0, a, b) + x.drawn(a, 1, b, 0);
            sum += x.drawn(0, a, 50, b) + x.meet(0, a, b, true) + x.meet(a, b, 0, false) + x.home(0, a, b, 0, 0, 0, 0);
            sum += x.home(0, 0, 0, 23, a, b, 0) + x.home(a, 0, 0, 1, 0, 0, b) + x.home(0, 5, 0, a, b, 1, 10);
            sum += x.thief(0, a, b, 0, 0, 0) + x.thief(a, 0, 0, 23, b, 1) + x.thief(0, 0, 0, a, 0, b);
        }
        sum += x.feed(a, a, a, a, a) + x.end(a) + x.fault(a) + x.count(a) + (x.image(a) ? 1 : 0) + (x.again(a) ? 1 : 0);
    }

    private static void edges() {
        for (int a : EDGES) {
            call(new EchoStair(), a);
            call(full(), a);
        }
    }

    private static long allocated() {
        return ((com.sun.management.ThreadMXBean) ManagementFactory.getThreadMXBean()).getCurrentThreadAllocatedBytes();
    }

    private static void calls() {
        EchoStair x = full();
        call(x, 0);
        call(x, 1);
        long before = allocated();
        for (int i = 0; i < 20; i++) {
            call(x, 0);
            call(x, 1);
        }
        long bytes = allocated() - before;
        check(bytes < 4096, "calls make objects: " + bytes + " bytes");
    }

    /** Counts all objects and arrays that an object holds, and their fields and elements. */
    private static long[] size(Object root) throws Exception {
        Set<Object> seen = Collections.newSetFromMap(new IdentityHashMap<>());
        Deque<Object> open = new ArrayDeque<>();
        open.add(root);
        seen.add(root);
        long elements = 0;
        while (!open.isEmpty()) {
            Object o = open.remove();
            Class<?> c = o.getClass();
            if (c.isArray()) {
                elements += Array.getLength(o);
                for (int i = 0; !c.getComponentType().isPrimitive() && i < Array.getLength(o); i++) {
                    push(Array.get(o, i), seen, open);
                }
                continue;
            }
            for (Field f : c.getDeclaredFields()) {
                if (!Modifier.isStatic(f.getModifiers())) {
                    elements++;
                    f.setAccessible(true);
                    if (!f.getType().isPrimitive()) {
                        push(f.get(o), seen, open);
                    }
                }
            }
        }
        return new long[] {seen.size(), elements};
    }

    private static void push(Object o, Set<Object> seen, Deque<Object> open) {
        if (o != null && seen.add(o)) {
            open.add(o);
        }
    }

    /** A house's evening is made when it is first asked for, and used again by a later house in its place. */
    private static void evenings() throws Exception {
        EchoStair x = full();
        long told = size(x)[0];
        check(x.house(0, 0) == 24 && x.sound(0, -1, 0) == 10 && size(x)[0] == told, "what is told needs no evening");
        check(x.tread(1, -1, 0) == 549, "treads of house 1");
        long one = size(x)[0];
        check(x.tread(0, -1, 0) == 549, "treads of house 0");
        long both = size(x)[0];
        check(one > told && both - one == one - told, "an evening for each house that is asked about");
        check(tell(x, 0, 1, "person 1 1 1;walk 0 0 0 3;") == 1 && x.tread(1, -1, 0) == 4, "another house in its place");
        check(x.tread(0, -1, 0) == 549, "the first one stays");
        check(x.again(2) && x.tread(1, -1, 0) == 549 && size(x)[0] == both, "no further evening");
    }

    public static void main(String[] args) throws Exception {
        edges();
        calls();
        evenings();
        long[] fresh = size(new EchoStair());
        EchoStair asked = full();
        call(asked, 0);
        call(asked, 1);
        long[] most = size(asked);
        System.out.println("a new object holds " + fresh[0] + " objects, " + fresh[1] + " elements; with all images and evenings "
            + most[0] + " and " + most[1] + " (" + sum + ")");
        check(512 * fresh[0] < 600000 && 512 * fresh[1] < 7300000, "a run may make an object with each of its calls");
        check(most[0] < 400 && most[1] < 40000, "an object is small");
        if (wrong != 0) {
            System.exit(1);
        }
    }
}
