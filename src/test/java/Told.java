import java.util.NoSuchElementException;

/** What the tests share: telling a hall a text, and counting the answers that are not due. */
final class Told {
    static int wrong = 0;

    interface Call {
        int of();
    }

    static FerryHall hall(String text) {
        FerryHall hall = new FerryHall();
        due("text: " + text, tell(hall, text), 0);
        return hall;
    }

    /** Feeds a text, filled up with blanks, and has it read. */
    static int tell(FerryHall hall, String text) {
        feed(hall, text);
        return hall.text(text.length());
    }

    static void feed(FerryHall hall, String text) {
        for (int at = 0; at < text.length(); at += 20) {
            int[] v = new int[5];
            for (int k = 0; k < 20; k++) {
                v[k / 4] = v[k / 4] << 8 | (at + k < text.length() ? text.charAt(at + k) & 255 : 32);
            }
            hall.feed(v[0], v[1], v[2], v[3], v[4]);
        }
    }

    static void due(String what, int got, int want) {
        if (got != want) {
            wrong++;
            System.out.println(what + " answered " + got + ", due is " + want);
        }
    }

    static void fault(String text, int number, int place) {
        FerryHall hall = new FerryHall();
        due("text: " + text, tell(hall, text), number);
        due("fault of: " + text, hall.fault(), place);
    }

    static void none(String what, Call call) {
        try {
            int got = call.of();
            wrong++;
            System.out.println(what + " answered " + got + ", due is NoSuchElementException");
        } catch (NoSuchElementException e) {
            return;
        }
    }

    static void illegal(String what, Call call) {
        try {
            int got = call.of();
            wrong++;
            System.out.println(what + " answered " + got + ", due is IllegalArgumentException");
        } catch (IllegalArgumentException e) {
            return;
        }
    }

    static void end() {
        System.out.println(wrong == 0 ? "all answers are as due" : wrong + " answers are not as due");
        if (wrong != 0) {
            System.exit(1);
        }
    }
}
