import java.util.ArrayList;
import java.util.HashMap;
import java.util.List;
import java.util.Map;
import java.util.Random;

/** Random texts and calls, each asked of FerryHall and of the Oracle. Arguments: first seed, how many. */
public final class FuzzTest {
    interface Call {
        int of();
    }

    private final Random random;
    private final FerryHall hall = new FerryHall();
    private final Oracle oracle = new Oracle();
    private final long seed;
    private final List<String> log = new ArrayList<>();
    private boolean wrong = false;
    private static final Map<String, Integer> seen = new HashMap<>();

    private FuzzTest(long seed) {
        this.seed = seed;
        random = new Random(seed);
    }

    public static void main(String[] args) {
        long first = args.length > 0 ? Long.parseLong(args[0]) : 1;
        int many = args.length > 1 ? Integer.parseInt(args[1]) : 1500;
        int bad = 0;
        for (long seed = first; seed < first + many; seed++) {
            FuzzTest test = new FuzzTest(seed);
            test.run();
            bad += test.wrong ? 1 : 0;
        }
        if (args.length > 2) {
            new java.util.TreeMap<>(seen).forEach((k, v) -> System.out.println(k + " " + v));
        }
        System.out.println(bad == 0 ? "all answers are alike" : bad + " runs differ");
        if (bad != 0) {
            System.exit(1);
        }
    }

    static String answer(Call call) {
        try {
            return Integer.toString(call.of());
        } catch (RuntimeException e) {
            return "throws." + e.getClass().getSimpleName();
        }
    }

    private void same(String name, Call mine, Call theirs) {
        if (wrong) {
            return;
        }
        String a = answer(mine);
        String b = answer(theirs);
        log.add(name + " = " + a);
        String kind = name.replaceAll("\\(.*", "");
        String value = a.startsWith("throws") ? a : a.startsWith("-") ? a : kind.equals("cross") || kind.equals("text") ? a : "number";
        seen.merge(kind + " " + value, 1, Integer::sum);
        if (!a.equals(b)) {
            wrong = true;
            System.out.println("seed " + seed + ": " + name + " answered " + a + ", due is " + b);
            for (String line : log.subList(Math.max(0, log.size() - 60), log.size())) {
                System.out.println("    " + line);
            }
        }
    }

    private int below(int n) {
        return random.nextInt(n);
    }

    private boolean chance(int percent) {
        return below(100) < percent;
    }

    /** Many texts with faults, and nothing but them. */
    private void faults() {
        for (int i = 0; i < 5; i++) {
            String text = TextMaker.make(random);
            for (int k = 0; k <= below(3); k++) {
                text = TextMaker.spoil(random, text);
            }
            feedText(text);
        }
    }

    private void run() {
        if (seed % 4 == 0) {
            faults();
            return;
        }
        int texts = 1 + below(3);
        if (chance(20)) {
            asks(5);
        }
        for (int i = 0; i < texts && !wrong; i++) {
            String text = TextMaker.make(random);
            if (chance(15)) {
                for (int k = 0; k <= below(2); k++) {
                    text = TextMaker.spoil(random, text);
                }
            }
            feedText(text);
            asks(20 + below(80));
        }
    }

    private void feedText(String text) {
        byte[] bytes = text.getBytes(java.nio.charset.StandardCharsets.ISO_8859_1);
        int n = Math.min(bytes.length, 700);
        for (int at = 0; at < n; at += 20) {
            int[] v = new int[5];
            for (int k = 0; k < 20; k++) {
                int b = at + k < bytes.length ? bytes[at + k] & 255 : 32;
                v[k / 4] = v[k / 4] << 8 | b;
            }
            same("feed", () -> hall.feed(v[0], v[1], v[2], v[3], v[4]), () -> oracle.feed(v[0], v[1], v[2], v[3], v[4]));
        }
        if (chance(3)) {
            same("text(-1)", () -> hall.text(-1), () -> oracle.text(-1));
            same("text(721)", () -> hall.text(721), () -> oracle.text(721));
        }
        int length = chance(3) ? below(n + 1) : n;
        log.add("text: " + text);
        same("text(" + length + ")", () -> hall.text(length), () -> oracle.text(length));
        same("fault()", hall::fault, oracle::fault);
        same("law()", hall::law, oracle::law);
    }

    private void asks(int many) {
        for (int i = 0; i < many && !wrong; i++) {
            int kind = below(26);
            if (kind < 8) {
                tell(kind);
            } else if (kind < 17) {
                seek(kind);
            } else {
                hand();
            }
        }
    }

    private void tell(int kind) {
        int a = someThing();
        int b = chance(90) ? below(3) : below(7) - 1;
        int c = chance(90) ? below(3) : below(5) - 1;
        boolean lamp = chance(50);
        int set = chance(90) ? below(256) : random.nextInt();
        switch (kind) {
            case 0 -> same("count(" + b + ")", () -> hall.count(b), () -> oracle.count(b));
            case 1 -> same("thing(" + a + "," + b + ")", () -> hall.thing(a, b), () -> oracle.thing(a, b));
            case 2 -> same("boat(" + c + "," + b + ")", () -> hall.boat(c, b), () -> oracle.boat(c, b));
            case 3 -> same("water(" + b + "," + c + ")", () -> hall.water(b, c) ? 1 : 0, () -> oracle.water(b, c) ? 1 : 0);
            case 4, 5 -> same("bars(" + set + "," + b + "," + c + "," + lamp + ")", () -> hall.bars(set, b, c, lamp), () -> oracle.bars(set, b, c, lamp));
            case 6 -> same("safe(" + b + "," + c + "," + lamp + ")", () -> hall.safe(b, c, lamp), () -> oracle.safe(b, c, lamp));
            default -> same("alike(" + (a) + ")", () -> hall.alike(a), () -> oracle.alike(a));
        }
    }

    private void seek(int kind) {
        int b = chance(90) ? below(4) : below(6) - 1;
        int c = chance(95) ? below(2) : below(4) - 1;
        switch (kind) {
            case 8 -> same("reached(" + b + ")", () -> hall.reached(b), () -> oracle.reached(b));
            case 9 -> same("fewest()", hall::fewest, oracle::fewest);
            case 10 -> same("quickest()", hall::quickest, oracle::quickest);
            case 11 -> same("ways()", hall::ways, oracle::ways);
            case 12 -> {
                for (int i = -1; i < 12; i++) {
                    int at = i;
                    int what = chance(90) ? below(4) : below(6) - 1;
                    same("way(" + at + "," + what + ")", () -> hall.way(at, what), () -> oracle.way(at, what));
                }
            }
            case 13 -> {
                for (int i = 0; i < 8; i++) {
                    int thing = someThing();
                    int k = below(12) - 1;
                    int what = chance(90) ? below(2) : below(4) - 1;
                    same("where(" + k + "," + thing + ")", () -> hall.where(k, thing), () -> oracle.where(k, thing));
                    same("rides(" + thing + "," + what + ")", () -> hall.rides(thing, what), () -> oracle.rides(thing, what));
                }
            }
            case 14 -> same("laws(" + c + ")", () -> hall.laws(c), () -> oracle.laws(c));
            case 15 -> same("size(" + c + ")", () -> hall.size(c), () -> oracle.size(c));
            default -> same("rounds()", hall::rounds, oracle::rounds);
        }
    }

    private void hand() {
        int boat = chance(95) ? below(Math.max(1, hall.count(2))) : random.nextInt();
        int to = chance(95) ? below(hall.count(0)) : random.nextInt();
        int set = chance(90) ? someSet(boat) : chance(90) ? below(256) : random.nextInt();
        int what = below(20) - 2;
        int small = chance(90) ? below(4) : below(6) - 1;
        switch (below(8)) {
            case 0, 1, 6, 7 -> {
                same("cross(" + boat + "," + to + "," + set + ")", () -> hall.cross(boat, to, set), () -> oracle.cross(boat, to, set));
                same("law()", hall::law, oracle::law);
            }
            case 2 -> followHint();
            case 3 -> same(chance(50) ? "back()" : "back() ", hall::back, oracle::back);
            case 4 -> same("play(" + what + ")", () -> hall.play(what), () -> oracle.play(what));
            default -> same("hint(" + small + ")", () -> hall.hint(small), () -> oracle.hint(small));
        }
    }

    private int someThing() {
        return chance(90) ? below(Math.max(1, hall.count(1))) : below(11) - 1;
    }

    /** A set of things that are where the boat is, most times with somebody who rows. */
    private int someSet(int boat) {
        if (boat < 0 || boat >= hall.count(2)) {
            return 1;
        }
        int present = 0;
        int rowers = 0;
        for (int thing = 0; thing < hall.count(1); thing++) {
            if (hall.play(8 + thing) == hall.play(4 + boat)) {
                present |= 1 << thing;
                rowers |= hall.thing(thing, 1) > 0 ? 1 << thing : 0;
            }
        }
        int set = present & random.nextInt(256);
        if (Integer.bitCount(set) > 2 && chance(70)) {
            set &= random.nextInt(256);
        }
        if ((set & rowers) == 0 && chance(80)) {
            set |= Integer.lowestOneBit(rowers);
        }
        return set;
    }

    private void followHint() {
        int boat = hall.hint(1);
        int to = hall.hint(2);
        int set = hall.hint(3);
        same("cross(" + boat + "," + to + "," + set + ")", () -> hall.cross(boat, to, set), () -> oracle.cross(boat, to, set));
        same("law()", hall::law, oracle::law);
        same("play(0)", () -> hall.play(0), () -> oracle.play(0));
        same("count(5)", () -> hall.count(5), () -> oracle.count(5));
    }
}
