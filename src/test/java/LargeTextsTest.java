import java.util.Random;

/** Texts with many things and far more states than FuzzTest's, searched by FerryHall and by the Oracle. */
public final class LargeTextsTest {
    private static final String NAMES = "abcdefgh";

    private final Random random;
    private final FerryHall hall = new FerryHall();
    private final Oracle oracle = new Oracle();
    private final StringBuilder out = new StringBuilder();
    private final long seed;
    private int shores = 2;
    private int things = 0;
    private int boats = 0;
    private boolean wrong = false;

    private LargeTextsTest(long seed) {
        this.seed = seed;
        random = new Random(seed);
    }

    /** Arguments: first seed, how many. */
    public static void main(String[] args) {
        long first = args.length > 0 ? Long.parseLong(args[0]) : 1;
        int many = args.length > 1 ? Integer.parseInt(args[1]) : 60;
        for (long seed = first; seed < first + many; seed++) {
            new LargeTextsTest(seed).run();
        }
        Told.end();
    }

    private int below(int n) {
        return random.nextInt(n);
    }

    private char name() {
        return NAMES.charAt(below(things));
    }

    private void same(String name, FuzzTest.Call mine, FuzzTest.Call theirs) {
        String got = FuzzTest.answer(mine);
        String due = FuzzTest.answer(theirs);
        if (!wrong && !got.equals(due)) {
            wrong = true;
            Told.wrong++;
            System.out.println("seed " + seed + ": " + name + " answered " + got + ", due is " + due + ": " + out);
        }
    }

    private void run() {
        write();
        String text = out.toString();
        for (int at = 0; at < text.length(); at += 20) {
            int[] v = new int[5];
            for (int k = 0; k < 20; k++) {
                v[k / 4] = v[k / 4] << 8 | (at + k < text.length() ? text.charAt(at + k) : 32);
            }
            same("feed", () -> hall.feed(v[0], v[1], v[2], v[3], v[4]), () -> oracle.feed(v[0], v[1], v[2], v[3], v[4]));
        }
        same("text", () -> hall.text(text.length()), () -> oracle.text(text.length()));
        search();
        same("fewest()", hall::fewest, oracle::fewest);
        askWay();
        same("quickest()", hall::quickest, oracle::quickest);
        askWay();
        changes();
        for (int i = 0; i < 15; i++) {
            byHand(i % 5 == 4);
        }
        search();
    }

    private void write() {
        shores = below(3) == 0 ? 2 + below(3) : 2;
        out.append("shores ").append(shores).append(';');
        things = (shores == 2 ? 6 : shores == 3 ? 4 : 3) + below(3);
        boolean alike = random.nextBoolean();
        for (int i = 0; i < things; i++) {
            out.append("thing ").append(NAMES.charAt(i)).append(" weight ").append(alike ? 5 : below(60));
            if (i == 0 || below(3) > 0) {
                out.append(" rows ").append(alike ? 2 : 1 + below(5));
            }
            out.append(';');
        }
        boats = 1 + below(2);
        for (int i = 0; i < boats; i++) {
            out.append("boat holds ").append(1 + below(below(4) == 0 ? 8 : 3)).append(" load ")
                    .append(random.nextBoolean() ? 999 : 20 + below(120)).append(" at ").append(someShore()).append(';');
        }
        if (below(3) == 0) {
            out.append("lamp at ").append(someShore()).append(';');
        }
        for (int i = shores > 2 && random.nextBoolean() ? 2 + below(3) : 0; i > 0; i--) {
            int from = below(shores);
            out.append(below(3) > 0 ? "water " : "way ").append(from).append(' ')
                    .append((from + 1 + below(shores - 1)) % shores).append(';');
        }
        for (int i = below(5); i > 0; i--) {
            out.append("never ").append(law()).append(';');
        }
    }

    private int someShore() {
        return below(4) > 0 ? 0 : below(shores);
    }

    private String law() {
        return switch (below(7)) {
            case 0 -> name() + " and " + name() + " and not " + name() + " ashore";
            case 1 -> name() + " and not " + name() + " aboard";
            case 2 -> "many=" + (2 + below(4)) + " and " + name() + " and boats=" + below(3);
            case 3 -> "1<many and rowers=" + below(2) + " and " + name();
            case 4 -> (100 + below(150)) + "<weight at " + below(shores);
            case 5 -> name() + "+" + name() + "<" + name() + " and lamp=" + below(2) + " and many=" + (1 + below(3));
            default -> name() + " and " + name() + " and many=" + (2 + below(3)) + " aboard";
        };
    }

    private void search() {
        for (int i = 0; i < 4; i++) {
            int what = i;
            same("reached(" + what + ")", () -> hall.reached(what), () -> oracle.reached(what));
        }
        same("ways()", hall::ways, oracle::ways);
    }

    private void askWay() {
        for (int i = -1; i < 40; i++) {
            int at = i;
            for (int k = 0; k < 4; k++) {
                int what = k;
                same("way(" + at + "," + what + ")", () -> hall.way(at, what), () -> oracle.way(at, what));
            }
        }
        for (int i = 0; i < things; i++) {
            int thing = i;
            int crossings = below(20);
            same("where(" + crossings + "," + thing + ")", () -> hall.where(crossings, thing), () -> oracle.where(crossings, thing));
            same("rides(" + thing + ",0)", () -> hall.rides(thing, 0), () -> oracle.rides(thing, 0));
            same("rides(" + thing + ",1)", () -> hall.rides(thing, 1), () -> oracle.rides(thing, 1));
        }
    }

    private void changes() {
        for (int i = 0; i < 2; i++) {
            int what = i;
            same("laws(" + what + ")", () -> hall.laws(what), () -> oracle.laws(what));
            same("size(" + what + ")", () -> hall.size(what), () -> oracle.size(what));
        }
        same("rounds()", hall::rounds, oracle::rounds);
        int thing = below(things);
        same("alike(" + thing + ")", () -> hall.alike(thing), () -> oracle.alike(thing));
    }

    private void byHand(boolean hints) {
        int boat = below(boats);
        int to = below(shores);
        int set = below(1 << things) & below(1 << things);
        same("cross(" + boat + "," + to + "," + set + ")", () -> hall.cross(boat, to, set), () -> oracle.cross(boat, to, set));
        same("law()", hall::law, oracle::law);
        for (int i = 0; i < 4 && hints; i++) {
            int what = i;
            same("hint(" + what + ")", () -> hall.hint(what), () -> oracle.hint(what));
        }
    }
}
