import java.lang.management.ManagementFactory;
import java.lang.reflect.InvocationTargetException;
import java.lang.reflect.Method;
import java.util.Random;

/** No call throws, whatever it is asked; and the dearest calls take little room. */
public final class RoomTest {
    private static final int CALLS = 512;
    private static final int[] WILD = {
        0, 1, -1, 2, 3, 4, 5, 6, 7, 8, 9, 10, 13, 16, 23, 24, 25, 32, 33, 40, 41, 48, 49, 59, 69, 70, 99, 100, 103, 240, 241,
        403, 404, 9999, 10000, Integer.MAX_VALUE, Integer.MAX_VALUE - 23, Integer.MIN_VALUE, Integer.MIN_VALUE + 1,
    };

    private static int wrong = 0;

    private static void due(String what, boolean is) {
        if (!is) {
            wrong++;
            System.out.println(what);
        }
    }

    public static void main(String[] args) throws Exception {
        wildCalls();
        due("a new object takes too much room: " + roomOfNew(), roomOfNew() < 12000);
        for (Method m : WindPrice.class.getDeclaredMethods()) {
            if (java.lang.reflect.Modifier.isPublic(m.getModifiers())) {
                long room = roomOf(m.getName());
                due(CALLS + " calls of " + m.getName() + " take too much room: " + room, room < CALLS * 500L);
            }
        }
        System.out.println(wrong == 0 ? "room: all as due" : "room: wrong");
        if (wrong != 0) {
            System.exit(1);
        }
    }

    private static void wildCalls() throws Exception {
        Random random = new Random(11);
        Method[] methods = WindPrice.class.getDeclaredMethods();
        java.util.Arrays.sort(methods, java.util.Comparator.comparing(Method::getName));
        for (int run = 0; run < 400 && wrong == 0; run++) {
            WindPrice sea = run % 3 == 0 ? new WindPrice() : full();
            for (int call = 0; call < CALLS - 40; call++) {
                Method m = methods[random.nextInt(methods.length)];
                if (java.lang.reflect.Modifier.isPublic(m.getModifiers())) {
                    wild(sea, m, random);
                }
            }
        }
    }

    private static void wild(WindPrice sea, Method m, Random random) throws Exception {
        Class<?>[] types = m.getParameterTypes();
        Object[] values = new Object[types.length];
        for (int i = 0; i < values.length; i++) {
            int v = WILD[random.nextInt(random.nextBoolean() ? 12 : WILD.length)];
            values[i] = types[i] == long.class ? (Object) random.nextLong() : (Object) v;
        }
        try {
            m.invoke(sea, values);
        } catch (InvocationTargetException e) {
            due(m.getName() + java.util.Arrays.toString(values) + " throws " + e.getCause(), false);
        }
    }

    private static WindPrice full() {
        WindPrice s = new WindPrice();
        for (int i = 0; i < 8; i++) {
            s.boat(10 * (i % 7) + i, 3 * i);
        }
        for (int i = 0; i < 4; i++) {
            s.sheet(i, 8 << i % 3, 24);
        }
        text(s, 0);
        text(s, 1);
        s.image();
        return s;
    }

    /** The longest TEXT: 60 bytes. */
    private static int text(WindPrice s, int use) {
        for (int i = 0; i < 7; i++) {
            s.feed(0x2B312B312B312B31L, 8);
        }
        s.feed(0x31312B31L, 4);
        return s.text(use);
    }

    private static long roomOfNew() {
        long was = room();
        WindPrice s = new WindPrice();
        long is = room();
        return s.count(0) == 0 ? is - was : 0;
    }

    private static long room() {
        return ((com.sun.management.ThreadMXBean) ManagementFactory.getThreadMXBean()).getCurrentThreadAllocatedBytes();
    }

    private static long roomOf(String name) {
        WindPrice s = full();
        ask(s, name, 0);
        long was = room();
        for (int i = 0; i < CALLS; i++) {
            ask(s, name, i);
        }
        return room() - was;
    }

    private static int ask(WindPrice s, String name, int i) {
        switch (name) {
            case "wind": return s.wind(i % 24, 10 * (i % 41) + i % 4);
            case "price": return s.price(i % 4, i % 100);
            case "boat": return s.boat(i % 70, i % 24);
            case "boatIs": return s.boatIs(i % 8, i % 10);
            case "as": return s.as(i % 8, i % 7);
            case "set": return s.set(i % 8, i % 8, i % 10);
            case "pay": return s.pay(i % 8, i);
            case "blows": return s.blows(i % 24);
            case "gone": return s.gone(i % 6);
            case "feed": return s.feed(i, i % 9);
            case "text": return text(s, i % 2);
            case "untell": return s.untell(i % 2);
            case "hours": return s.hours(20);
            case "loose": return s.loose(20);
            case "seed": return s.seed(i);
            case "then": return s.then(240, i % 8, i % 10);
            case "income": return s.income(240);
            case "dearest": return s.dearest(i % 4, 48);
            case "lee": return s.lee(i % 8, i % 7);
            case "who": return s.who(i % 4, i % 41, i % 4);
            case "voyage": return s.voyage(i % 24, 23 - i % 24, 24);
            case "voice": return s.voice(i % 8, i % 4, i);
            case "body": return s.body(i % 5);
            case "sheet": return s.sheet(i % 4, 8 << i % 3, i % 25);
            case "put": return s.put(i % 4, i % 24, i);
            case "move": return s.move(0, 0, 3, 0, 24);
            case "winds": return s.winds(i % 4);
            case "judge": return s.judge(i % 4);
            case "image": return s.image();
            case "restore": return s.restore();
            case "tell": return s.tell(i);
            case "check":
                for (int j = 0; j < 24; j++) {
                    s.tell(j);
                }
                return s.check(i % 8);
            case "count": return s.count(i % 14);
            default: return s.told(i % 7);
        }
    }
}
