import java.lang.reflect.Array;
import java.lang.reflect.Field;
import java.lang.reflect.Modifier;
import java.util.ArrayDeque;
import java.util.Collections;
import java.util.Deque;
import java.util.IdentityHashMap;
import java.util.Random;
import java.util.Set;

/** An object keeps to its room, its calls make next to nothing, and no arguments bring out another exception. */
public final class RoomTest {
    private static final String EIGHT = "thing a weight 1 rows 1;thing b weight 1 rows 1;thing c weight 1 rows 1;"
            + "thing d weight 1 rows 1;thing e weight 1 rows 1;thing f weight 1 rows 1;thing g weight 1 rows 1;"
            + "thing h weight 1 rows 1;";
    private static final String LARGE = EIGHT + "boat holds 3 load 99 at 0;boat holds 3 load 99 at 0;"
            + "never 0;never 0;never 0;never 0;never 0;never 0;never 0;never 0;never 0;never 0;never 0;never 0;";

    public static void main(String[] args) {
        FerryHall fresh = new FerryHall();
        within("elements of a new object", room(fresh)[1], 45000);
        FerryHall used = Told.hall(LARGE);
        use(used);
        long before = made();
        for (int i = 0; i < 30; i++) {
            use(used);
        }
        within("bytes that 480 calls make", (int) (made() - before), 200000);
        within("objects of a used one", room(used)[0], 60);
        within("elements of a used one", room(used)[1], 90000);
        wildCalls();
        Told.end();
    }

    private static void within(String what, int got, int most) {
        System.out.println(what + ": " + got + " (at most " + most + ")");
        if (got > most) {
            Told.wrong++;
        }
    }

    private static long made() {
        var threads = (com.sun.management.ThreadMXBean) java.lang.management.ManagementFactory.getThreadMXBean();
        return threads.getThreadAllocatedBytes(Thread.currentThread().getId());
    }

    /** Sixteen of the dearest calls. */
    private static void use(FerryHall x) {
        x.fewest();
        x.quickest();
        x.ways();
        x.reached(2);
        x.laws(0);
        x.laws(1);
        x.size(0);
        x.size(1);
        x.rounds();
        x.alike(3);
        x.safe(1, 1, true);
        x.cross(0, 1, 7);
        x.hint(0);
        x.hint(3);
        x.back();
        x.fewest();
    }

    /** How many objects, and fields and elements, an object holds. */
    private static int[] room(Object of) {
        Set<Object> seen = Collections.newSetFromMap(new IdentityHashMap<>());
        Deque<Object> open = new ArrayDeque<>();
        open.add(of);
        int elements = 0;
        while (!open.isEmpty()) {
            Object now = open.poll();
            if (!seen.add(now)) {
                continue;
            }
            if (now.getClass().isArray()) {
                elements += Array.getLength(now);
                continue;
            }
            for (Field field : now.getClass().getDeclaredFields()) {
                if (!Modifier.isStatic(field.getModifiers())) {
                    elements++;
                    addReferred(open, now, field);
                }
            }
        }
        return new int[] {seen.size(), elements};
    }

    private static void addReferred(Deque<Object> open, Object holder, Field field) {
        try {
            field.setAccessible(true);
            Object value = field.get(holder);
            if (!field.getType().isPrimitive() && value != null) {
                open.add(value);
            }
        } catch (IllegalAccessException e) {
            throw new IllegalStateException(e);
        }
    }

    /** Any numbers at all: only the exceptions of the document may come. */
    private static void wildCalls() {
        Random random = new Random(7);
        for (int round = 0; round < 300; round++) {
            FerryHall x = new FerryHall();
            if (round % 3 != 0) {
                String text = TextMaker.make(random);
                Told.tell(x, text.substring(0, Math.min(text.length(), 700)));
            }
            for (int call = 0; call < 400; call++) {
                try {
                    wildCall(x, random);
                } catch (java.util.NoSuchElementException e) {
                    continue;
                } catch (IllegalArgumentException e) {
                    if (e.getClass() != IllegalArgumentException.class) {
                        Told.due("another exception: " + e, 1, 0);
                    }
                } catch (RuntimeException e) {
                    Told.due("another exception: " + e, 1, 0);
                }
            }
        }
    }

    private static int wild(Random random) {
        int[] edges = {-1, 0, 1, 2, 3, 4, 7, 8, 9, 255, 256, 700, 701, 1999, 2000, Integer.MAX_VALUE, Integer.MIN_VALUE};
        return random.nextInt(3) > 0 ? edges[random.nextInt(edges.length)] : random.nextInt();
    }

    private static void wildCall(FerryHall x, Random random) {
        int a = wild(random);
        int b = wild(random);
        int c = wild(random);
        boolean lamp = random.nextBoolean();
        switch (random.nextInt(25)) {
            case 0 -> x.feed(a, b, c, a, b);
            case 1 -> {
                if (random.nextInt(10) == 0) {
                    x.text(a);
                }
            }
            case 2 -> x.fault();
            case 3 -> x.count(a);
            case 4 -> x.thing(a, b);
            case 5 -> x.boat(a, b);
            case 6 -> x.water(a, b);
            case 7 -> x.bars(a, b, c, lamp);
            case 8 -> x.safe(a, b, lamp);
            case 9 -> x.reached(a);
            case 10 -> x.fewest();
            case 11 -> x.quickest();
            case 12 -> x.ways();
            case 13 -> x.way(a, b);
            case 14 -> x.where(a, b);
            case 15 -> x.rides(a, b);
            case 16 -> x.laws(a);
            case 17 -> x.size(a);
            case 18 -> x.rounds();
            case 19 -> x.alike(a);
            case 20 -> x.cross(a, b, c);
            case 21 -> x.law();
            case 22 -> x.back();
            case 23 -> x.play(a);
            default -> x.hint(a);
        }
    }
}
