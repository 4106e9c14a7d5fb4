import java.lang.reflect.InvocationTargetException;
import java.lang.reflect.Method;
import java.lang.reflect.Modifier;
import java.util.NoSuchElementException;

/** What the tests share: telling a hall a text, and counting the answers that are not due. */
final class Told {
    static int wrong = 0;

    interface Call {
        int of();
    }

    static FerryHall hall(String text) {
        FerryHall hall = new FerryHall();
        due("text: " + text, tell(hall, text), 0);
        return hall;
    }

    /** Feeds a text, filled up with blanks, and has it read. */
    static int tell(FerryHall hall, String text) {
        feed(hall, text);
        return hall.text(text.length());
    }

    static void feed(FerryHall hall, String text) {
        for (int at = 0; at < text.length(); at += 20) {
            int[] v = new int[5];
            for (int k = 0; k < 20; k++) {
                v[k / 4] = v[k / 4] << 8 | (at + k < text.length() ? text.charAt(at + k) & 255 : 32);
            }
            hall.feed(v[0], v[1], v[2], v[3], v[4]);
        }
    }

    static void due(String what, int got, int want) {
        if (got != want) {
            wrong++;
            System.out.println(what + " answered " + got + ", due is " + want);
        }
    }

    static void fault(String text, int number, int place) {
        FerryHall hall = new FerryHall();
        due("text: " + text, tell(hall, text), number);
        due("fault of: " + text, hall.fault(), place);
    }

    static void none(String what, Call call) {
        try {
            int got = call.of();
            wrong++;
            System.out.println(what + " answered " + got + ", due is NoSuchElementException");
        } catch (NoSuchElementException e) {
            exactly(what, e, NoSuchElementException.class);
        }
    }

    static void illegal(String what, Call call) {
        try {
            int got = call.of();
            wrong++;
            System.out.println(what + " answered " + got + ", due is IllegalArgumentException");
        } catch (IllegalArgumentException e) {
            exactly(what, e, IllegalArgumentException.class);
        }
    }

    private static void exactly(String what, RuntimeException thrown, Class<?> due) {
        if (thrown.getClass() != due) {
            wrong++;
            System.out.println(what + " threw " + thrown + ", due is " + due.getSimpleName());
        }
    }

    /** Of the group {a, b} at shore 1 of 2, with 2 boats and the lamp: a law bars if its expression holds. */
    static void holds(String expr, boolean holds) {
        FerryHall x = hall("thing a weight 7 rows 1;thing b weight 4;thing c weight 9 rows 3;never " + expr + ";");
        due("bars: " + expr, x.bars(3, 1, 2, true), holds ? 1 : 0);
    }

    /** Runs each test of a class, a static method named after what it tests, and tells by name those that fail. */
    static void runEach(Class<?> tests) {
        int run = 0;
        for (Method test : tests.getDeclaredMethods()) {
            if (Modifier.isStatic(test.getModifiers()) && test.getName().matches("(face|terms|promise)[0-9]*[A-Z].*")) {
                run++;
                runOne(test);
            }
        }
        System.out.println(run + " tests of " + tests.getSimpleName());
    }

    private static void runOne(Method test) {
        int before = wrong;
        try {
            test.setAccessible(true);
            test.invoke(null);
        } catch (InvocationTargetException e) {
            wrong++;
            System.out.println("thrown: " + e.getCause());
        } catch (IllegalAccessException e) {
            throw new IllegalStateException(e);
        }
        if (wrong != before) {
            System.out.println("FAILED: " + test.getName());
        }
    }

    static void end() {
        System.out.println(wrong == 0 ? "all answers are as due" : wrong + " answers are not as due");
        if (wrong != 0) {
            System.exit(1);
        }
    }
}
