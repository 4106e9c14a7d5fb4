import java.util.ArrayList;
import java.util.Arrays;
import java.util.HashMap;
import java.util.HashSet;
import java.util.LinkedHashMap;
import java.util.List;
import java.util.Map;
import java.util.NoSuchElementException;
import java.util.Set;

/**
 * A second, slow reading of DOC.md with the Java library, to compare FerryHall with: the same face, every answer worked
 * out anew from the words of the document, nothing hoisted.
 */
final class Oracle {
    static final class Fault extends RuntimeException {
        final int number;
        final int place;

        Fault(int number, int place) {
            this.number = number;
            this.place = place;
        }
    }

    record Thing(int letter, int weight, int minutes) { }

    record Boat(int hold, int load, int shore) { }

    record Group(int set, int shore, int boats, int lamp) { }

    record Law(Expr expr, String scope, int shore) { }

    record State(List<Integer> things, List<Integer> boats, int lamp) { }

    record Crossing(int boat, int to, int set) { }

    record Edge(Crossing crossing, State target) { }

    record Setup(int without, int hold, int load) { }

    record Bar(int number, int law) { }

    interface Expr {
        int of(Group group);
    }

    /** What a text tells. */
    final class World {
        int shores = 2;
        final List<Thing> things = new ArrayList<>();
        final List<Boat> boats = new ArrayList<>();
        int lamp = -1;
        final Set<List<Integer>> water = new HashSet<>();
        final List<Law> laws = new ArrayList<>();
        final Map<Group, Integer> barring = new HashMap<>();
        final Map<Setup, Explored> explored = new HashMap<>();

        int thingNamed(int letter) {
            for (int i = 0; i < things.size(); i++) {
                if (things.get(i).letter == letter) {
                    return i;
                }
            }
            return -1;
        }
    }

    final class Explored {
        boolean spent;
        final Map<State, List<Edge>> edges = new LinkedHashMap<>();
        final Map<State, Integer> depth = new HashMap<>();
        int edgeCount;
    }

    // ---- reading

    static final class Token {
        char kind; // w n s b e
        String text;
        int place;
    }

    final class Parser {
        final List<Token> tokens = new ArrayList<>();
        int at = 0;
        World world = new World();

        Parser(byte[] bytes, int n) {
            String all = new String(bytes, 0, n, java.nio.charset.StandardCharsets.ISO_8859_1);
            java.util.regex.Matcher m = java.util.regex.Pattern.compile("([a-z]+)|([0-9]+)|([;()+\\-*/<=])|([ \\n])|([\\s\\S])").matcher(all);
            while (m.find()) {
                if (m.group(4) != null) {
                    continue;
                }
                Token t = new Token();
                t.kind = m.group(1) != null ? 'w' : m.group(2) != null ? 'n' : m.group(3) != null ? 's' : 'b';
                t.text = m.group();
                t.place = m.start();
                tokens.add(t);
            }
            Token end = new Token();
            end.kind = 'e';
            end.text = "";
            end.place = n;
            tokens.add(end);
        }

        Token here() {
            return tokens.get(at);
        }

        Fault bad(int number) {
            return new Fault(number, here().place);
        }

        boolean is(String text) {
            return here().kind != 'b' && here().kind != 'e' && here().text.equals(text);
        }

        boolean take(String text) {
            if (is(text)) {
                at++;
                return true;
            }
            return false;
        }

        void need(String text) {
            if (!take(text)) {
                throw bad(1);
            }
        }

        int number(int least, int most) {
            if (here().kind != 'n') {
                throw bad(1);
            }
            if (here().text.length() >= 4) {
                throw bad(2);
            }
            int v = Integer.parseInt(here().text);
            if (v < least || v > most) {
                throw bad(2);
            }
            at++;
            return v;
        }

        int shore() {
            int was = at;
            int v = number(0, 999);
            if (v >= world.shores) {
                at = was;
                throw bad(4);
            }
            return v;
        }

        World parse() {
            if (take("shores")) {
                world.shores = number(2, 4);
                need(";");
            }
            while (here().kind != 'e') {
                clause();
                need(";");
            }
            if (world.water.isEmpty()) {
                for (int a = 0; a < world.shores; a++) {
                    for (int b = 0; b < world.shores; b++) {
                        if (a != b) {
                            world.water.add(List.of(a, b));
                        }
                    }
                }
            }
            return world;
        }

        void clause() {
            if (is("thing")) {
                if (world.things.size() == 8) {
                    throw bad(2);
                }
                at++;
                if (here().kind != 'w' || here().text.length() != 1) {
                    throw bad(1);
                }
                int letter = here().text.charAt(0);
                if (world.thingNamed(letter) >= 0) {
                    throw bad(5);
                }
                at++;
                need("weight");
                int weight = number(0, 99);
                int minutes = take("rows") ? number(1, 99) : 0;
                world.things.add(new Thing(letter, weight, minutes));
            } else if (is("boat")) {
                if (world.boats.size() == 2) {
                    throw bad(2);
                }
                at++;
                need("holds");
                int hold = number(1, 8);
                need("load");
                int load = number(0, 999);
                need("at");
                world.boats.add(new Boat(hold, load, shore()));
            } else if (is("water") || is("way")) {
                boolean both = is("water");
                at++;
                int a = shore();
                int was = at;
                int b = shore();
                if (a == b) {
                    at = was;
                    throw bad(5);
                }
                world.water.add(List.of(a, b));
                if (both) {
                    world.water.add(List.of(b, a));
                }
            } else if (is("lamp")) {
                if (world.lamp >= 0) {
                    throw bad(5);
                }
                at++;
                need("at");
                world.lamp = shore();
            } else if (is("never")) {
                if (world.laws.size() == 12) {
                    throw bad(2);
                }
                at++;
                Expr e = expr(0);
                String scope = "";
                int shore = -1;
                if (is("ashore") || is("aboard")) {
                    scope = here().text;
                    at++;
                } else if (take("at")) {
                    scope = "at";
                    shore = shore();
                }
                world.laws.add(new Law(e, scope, shore));
            } else {
                throw bad(1);
            }
        }

        Expr expr(int within) {
            if (within >= 6) {
                throw bad(here().kind == 'n' || here().kind == 'w' || is("(") ? 2 : 1);
            }
            Expr left = and(within);
            while (take("or")) {
                Expr l = left;
                Expr r = and(within);
                left = g -> truth(l.of(g) != 0 | r.of(g) != 0);
            }
            return left;
        }

        Expr and(int within) {
            Expr left = not(within, 0);
            while (take("and")) {
                Expr l = left;
                Expr r = not(within, 0);
                left = g -> truth(l.of(g) != 0 & r.of(g) != 0);
            }
            return left;
        }

        Expr not(int within, int nots) {
            if (is("not")) {
                if (nots == 6) {
                    throw bad(2);
                }
                at++;
                Expr x = not(within, nots + 1);
                return g -> truth(x.of(g) == 0);
            }
            Expr l = sum(within);
            if (take("<")) {
                Expr r = sum(within);
                return g -> truth(l.of(g) < r.of(g));
            }
            if (take("=")) {
                Expr r = sum(within);
                return g -> truth(l.of(g) == r.of(g));
            }
            return l;
        }

        Expr sum(int within) {
            Expr left = product(within);
            while (is("+") || is("-")) {
                boolean plus = is("+");
                at++;
                Expr l = left;
                Expr r = product(within);
                left = plus ? g -> l.of(g) + r.of(g) : g -> l.of(g) - r.of(g);
            }
            return left;
        }

        Expr product(int within) {
            Expr left = part(within);
            while (is("*") || is("/")) {
                boolean times = is("*");
                at++;
                Expr l = left;
                Expr r = part(within);
                left = times ? g -> l.of(g) * r.of(g) : g -> {
                    int by = r.of(g);
                    return by == 0 ? 0 : l.of(g) / by;
                };
            }
            return left;
        }

        Expr part(int within) {
            Token t = here();
            if (t.kind == 'n') {
                int v = number(0, 999);
                return g -> v;
            }
            if (t.kind == 'w' && t.text.length() == 1) {
                int thing = world.thingNamed(t.text.charAt(0));
                if (thing < 0) {
                    throw bad(4);
                }
                at++;
                return g -> g.set >> thing & 1;
            }
            if (take("(")) {
                Expr inner = expr(within + 1);
                need(")");
                return inner;
            }
            if (t.kind != 'w') {
                throw bad(1);
            }
            World w = world;
            Expr word = switch (t.text) {
                case "many" -> g -> Integer.bitCount(g.set);
                case "weight" -> g -> sumOf(w, g.set, false);
                case "rowers" -> g -> sumOf(w, g.set, true);
                case "boats" -> g -> g.boats;
                case "lamp" -> g -> g.lamp;
                case "shore" -> g -> g.shore;
                default -> throw bad(3);
            };
            at++;
            return word;
        }
    }

    static int truth(boolean holds) {
        return holds ? 1 : 0;
    }

    static int sumOf(World w, int set, boolean rowers) {
        int sum = 0;
        for (int i = 0; i < w.things.size(); i++) {
            if ((set >> i & 1) != 0) {
                sum += rowers ? truth(w.things.get(i).minutes > 0) : w.things.get(i).weight;
            }
        }
        return sum;
    }

    // ---- laws

    int barring(int set, int shore, int boats, int lamp) {
        World w = world;
        if (set == 0) {
            return 0;
        }
        Group group = new Group(set, shore, shore == w.shores ? 1 : boats, lamp);
        return w.barring.computeIfAbsent(group, g -> {
            int laws = 0;
            for (int i = 0; i < w.laws.size(); i++) {
                Law law = w.laws.get(i);
                boolean goes = switch (law.scope) {
                    case "ashore" -> g.shore < w.shores;
                    case "aboard" -> g.shore == w.shores;
                    case "at" -> g.shore == law.shore;
                    default -> true;
                };
                if (goes && law.expr.of(g) != 0) {
                    laws |= 1 << i;
                }
            }
            return laws;
        });
    }

    // ---- states

    State start() {
        List<Integer> things = new ArrayList<>();
        for (int i = 0; i < world.things.size(); i++) {
            things.add(0);
        }
        List<Integer> boats = new ArrayList<>();
        for (Boat b : world.boats) {
            boats.add(b.shore);
        }
        return new State(things, boats, world.lamp);
    }

    boolean goal(State s) {
        for (int shore : s.things) {
            if (shore != world.shores - 1) {
                return false;
            }
        }
        return true;
    }

    /** Laws that bar a group at a shore; aboard things are at -1, boats on the water too, and the lamp. */
    int ashore(State s) {
        int laws = 0;
        for (int shore = 0; shore < world.shores; shore++) {
            int set = 0;
            for (int i = 0; i < s.things.size(); i++) {
                if (s.things.get(i) == shore) {
                    set |= 1 << i;
                }
            }
            int boats = 0;
            for (int at : s.boats) {
                boats += truth(at == shore);
            }
            laws |= barring(set, shore, boats, truth(s.lamp == shore));
        }
        return laws;
    }

    State moved(State s, Crossing c, int to) {
        List<Integer> things = new ArrayList<>(s.things);
        for (int i = 0; i < things.size(); i++) {
            if ((c.set >> i & 1) != 0) {
                things.set(i, to);
            }
        }
        List<Integer> boats = new ArrayList<>(s.boats);
        boats.set(c.boat, to);
        return new State(things, boats, world.lamp < 0 ? -1 : to);
    }

    int minutes(int set) {
        int most = 0;
        for (int i = 0; i < world.things.size(); i++) {
            if ((set >> i & 1) != 0) {
                most = Math.max(most, world.things.get(i).minutes);
            }
        }
        return most;
    }

    /** Ahead of the laws: 1 to 6, or 0. */
    int plainBar(State s, Crossing c, Setup setup) {
        if (c.boat < 0 || c.boat >= s.boats.size() || c.to < 0 || c.to >= world.shores
                || !world.water.contains(List.of(s.boats.get(c.boat), c.to))) {
            return 1;
        }
        int from = s.boats.get(c.boat);
        for (int i = 0; i < 32; i++) {
            if ((c.set >> i & 1) != 0 && (i >= s.things.size() || s.things.get(i) != from)) {
                return 2;
            }
        }
        if (sumOf(world, c.set, true) == 0) {
            return 3;
        }
        if (Integer.bitCount(c.set) > (c.boat == 0 ? setup.hold : world.boats.get(c.boat).hold)) {
            return 4;
        }
        if (sumOf(world, c.set, false) > (c.boat == 0 ? setup.load : world.boats.get(c.boat).load)) {
            return 5;
        }
        return world.lamp >= 0 && s.lamp != from ? 6 : 0;
    }

    Bar judge(State s, Crossing c, Setup setup) {
        int plain = plainBar(s, c, setup);
        if (plain != 0) {
            return new Bar(plain, -1);
        }
        int atStart = ashore(start()) & ~setup.without;
        if (atStart != 0) {
            return new Bar(7, Integer.numberOfTrailingZeros(atStart));
        }
        int water = (barring(c.set, world.shores, 1, truth(world.lamp >= 0)) | ashore(moved(s, c, -1))) & ~setup.without;
        if (water != 0) {
            return new Bar(7, Integer.numberOfTrailingZeros(water));
        }
        int behind = ashore(moved(s, c, c.to)) & ~setup.without;
        return behind != 0 ? new Bar(8, Integer.numberOfTrailingZeros(behind)) : new Bar(0, -1);
    }

    Setup asTold() {
        return world.boats.isEmpty() ? new Setup(0, 0, 0) : new Setup(0, world.boats.get(0).hold, world.boats.get(0).load);
    }

    Explored explore(Setup setup) {
        Explored known = world.explored.get(setup);
        if (known != null) {
            return known;
        }
        Explored x = new Explored();
        world.explored.put(setup, x);
        List<State> row = new ArrayList<>();
        row.add(start());
        x.depth.put(start(), 0);
        for (int k = 0; k < row.size(); k++) {
            State s = row.get(k);
            List<Edge> out = new ArrayList<>();
            x.edges.put(s, out);
            for (int boat = 0; boat < world.boats.size(); boat++) {
                for (int to = 0; to < world.shores; to++) {
                    for (int set = 1; set < 1 << world.things.size(); set++) {
                        Crossing c = new Crossing(boat, to, set);
                        if (judge(s, c, setup).number == 0) {
                            State t = moved(s, c, to);
                            out.add(new Edge(c, t));
                            x.edgeCount++;
                            if (x.depth.putIfAbsent(t, x.depth.get(s) + 1) == null) {
                                row.add(t);
                            }
                        }
                    }
                }
            }
            if (row.size() > 2000 || x.edgeCount > 40000) {
                x.spent = true;
                return x;
            }
        }
        return x;
    }

    /** The cost of the best way to a goal from each state that has one: {first measure, crossings}. */
    Map<State, long[]> costs(Explored x, boolean timed) {
        Map<State, long[]> best = new HashMap<>();
        for (State s : x.edges.keySet()) {
            if (goal(s)) {
                best.put(s, new long[] {0, 0});
            }
        }
        boolean changed = true;
        while (changed) {
            changed = false;
            for (Map.Entry<State, List<Edge>> e : x.edges.entrySet()) {
                for (Edge edge : e.getValue()) {
                    long[] t = best.get(edge.target);
                    if (t != null) {
                        long[] c = {t[0] + (timed ? minutes(edge.crossing.set) : 1), t[1] + 1};
                        long[] had = best.get(e.getKey());
                        if (had == null || Arrays.compare(c, had) < 0) {
                            best.put(e.getKey(), c);
                            changed = true;
                        }
                    }
                }
            }
        }
        return best;
    }

    /** The first best way as a row; null: none. */
    List<Crossing> best(Explored x, State from, boolean timed) {
        Map<State, long[]> costs = costs(x, timed);
        if (!costs.containsKey(from)) {
            return null;
        }
        List<Crossing> row = new ArrayList<>();
        State s = from;
        while (!goal(s)) {
            Edge next = null;
            for (Edge edge : x.edges.get(s)) {
                long[] t = costs.get(edge.target);
                if (t != null && next == null) {
                    long[] c = {t[0] + (timed ? minutes(edge.crossing.set) : 1), t[1] + 1};
                    if (Arrays.equals(c, costs.get(s))) {
                        next = edge;
                    }
                }
            }
            row.add(next.crossing);
            s = next.target;
        }
        return row;
    }

    int fewestOf(Setup setup) {
        Explored x = explore(setup);
        if (x.spent) {
            return -2;
        }
        int least = -1;
        for (Map.Entry<State, Integer> e : x.depth.entrySet()) {
            if (goal(e.getKey()) && (least < 0 || e.getValue() < least)) {
                least = e.getValue();
            }
        }
        return least;
    }

    // ---- the face

    World world = new Parser(new byte[0], 0).parse();
    private byte[] tape = new byte[0];
    private int place = -1;
    private List<Crossing> kept = null;
    private final List<State> states = new ArrayList<>();
    private final List<Crossing> made = new ArrayList<>();
    private int barLaw = -1;

    Oracle() {
        states.add(start());
    }

    int feed(int a, int b, int c, int d, int e) {
        if (tape.length + 20 > 700) {
            return -1;
        }
        java.nio.ByteBuffer buffer = java.nio.ByteBuffer.allocate(tape.length + 20);
        buffer.put(tape).putInt(a).putInt(b).putInt(c).putInt(d).putInt(e);
        tape = buffer.array();
        return tape.length;
    }

    int text(int n) {
        if (n < 0 || n > tape.length) {
            throw new IllegalArgumentException();
        }
        byte[] bytes = tape;
        tape = new byte[0];
        try {
            world = new Parser(bytes, n).parse();
        } catch (Fault f) {
            place = f.place;
            return f.number;
        }
        place = -1;
        kept = null;
        barLaw = -1;
        made.clear();
        states.clear();
        states.add(start());
        return 0;
    }

    int fault() {
        return place;
    }

    static NoSuchElementException none() {
        return new NoSuchElementException();
    }

    int count(int what) {
        return switch (what) {
            case 0 -> world.shores;
            case 1 -> world.things.size();
            case 2 -> world.boats.size();
            case 3 -> world.laws.size();
            case 4 -> truth(world.lamp >= 0);
            case 5 -> made.size();
            case 6 -> tape.length;
            default -> throw none();
        };
    }

    void needThing(int thing) {
        if (thing < 0 || thing >= world.things.size()) {
            throw none();
        }
    }

    int thing(int thing, int what) {
        needThing(thing);
        Thing t = world.things.get(thing);
        return switch (what) {
            case 0 -> t.weight;
            case 1 -> t.minutes;
            case 2 -> t.letter;
            default -> throw none();
        };
    }

    int boat(int boat, int what) {
        if (boat < 0 || boat >= world.boats.size()) {
            throw none();
        }
        Boat b = world.boats.get(boat);
        return switch (what) {
            case 0 -> b.hold;
            case 1 -> b.load;
            case 2 -> b.shore;
            default -> throw none();
        };
    }

    boolean water(int from, int to) {
        if (from < 0 || to < 0 || from >= world.shores || to >= world.shores) {
            throw none();
        }
        return world.water.contains(List.of(from, to));
    }

    int bars(int set, int shore, int boats, boolean lamp) {
        if (shore < 0 || shore > world.shores || boats < 0 || boats > 2) {
            throw none();
        }
        return barring(set & (1 << world.things.size()) - 1, shore, boats, truth(lamp));
    }

    int safe(int shore, int boats, boolean lamp) {
        int n = 0;
        bars(0, shore, boats, lamp);
        for (int set = 1; set < 1 << world.things.size(); set++) {
            n += truth(bars(set, shore, boats, lamp) == 0);
        }
        return n;
    }

    int reached(int what) {
        if (what < 0 || what > 3) {
            throw none();
        }
        Explored x = explore(asTold());
        if (x.spent) {
            return -1;
        }
        return switch (what) {
            case 0 -> x.edges.size();
            case 1 -> x.edgeCount;
            case 2 -> x.edges.size() - costs(x, false).size();
            default -> x.depth.values().stream().mapToInt(v -> v).max().getAsInt();
        };
    }

    int find(boolean timed) {
        Explored x = explore(asTold());
        if (x.spent) {
            return -2;
        }
        List<Crossing> row = best(x, start(), timed);
        if (row == null) {
            return -1;
        }
        kept = row;
        return timed ? row.stream().mapToInt(c -> minutes(c.set)).sum() : row.size();
    }

    int fewest() {
        return find(false);
    }

    int quickest() {
        return find(true);
    }

    int ways() {
        Explored x = explore(asTold());
        if (x.spent) {
            return -2;
        }
        int fewest = fewestOf(asTold());
        Map<State, java.math.BigInteger> now = new HashMap<>();
        now.put(start(), java.math.BigInteger.ONE);
        for (int i = 0; i < fewest; i++) {
            Map<State, java.math.BigInteger> next = new HashMap<>();
            for (Map.Entry<State, java.math.BigInteger> e : now.entrySet()) {
                for (Edge edge : x.edges.get(e.getKey())) {
                    next.merge(edge.target, e.getValue(), java.math.BigInteger::add);
                }
            }
            now = next;
        }
        java.math.BigInteger sum = java.math.BigInteger.ZERO;
        for (Map.Entry<State, java.math.BigInteger> e : now.entrySet()) {
            if (fewest >= 0 && goal(e.getKey())) {
                sum = sum.add(e.getValue());
            }
        }
        return sum.min(java.math.BigInteger.valueOf(1000000000)).intValue();
    }

    int way(int i, int what) {
        if (kept == null || what < 0 || what > 3 || i < -1 || i >= kept.size() || i == -1 && what != 0 && what != 3) {
            throw none();
        }
        if (i == -1) {
            return what == 0 ? kept.size() : kept.stream().mapToInt(c -> minutes(c.set)).sum();
        }
        Crossing c = kept.get(i);
        return switch (what) {
            case 0 -> c.boat;
            case 1 -> c.to;
            case 2 -> c.set;
            default -> minutes(c.set);
        };
    }

    State keptBehind(int crossings) {
        State s = start();
        for (int i = 0; i < crossings; i++) {
            s = moved(s, kept.get(i), kept.get(i).to);
        }
        return s;
    }

    int where(int crossings, int thing) {
        needThing(thing);
        if (kept == null || crossings < 0 || crossings > kept.size()) {
            throw none();
        }
        return keptBehind(crossings).things.get(thing);
    }

    int rides(int thing, int what) {
        needThing(thing);
        if (kept == null || what < 0 || what > 1) {
            throw none();
        }
        int n = 0;
        for (int i = 0; i < kept.size(); i++) {
            if (what == 0) {
                n += kept.get(i).set >> thing & 1;
            } else {
                State s = keptBehind(i + 1);
                int with = 0;
                for (int shore : s.things) {
                    with += truth(shore == s.things.get(thing));
                }
                n += truth(with == 1);
            }
        }
        return n;
    }

    int laws(int what) {
        if (what < 0 || what > 1) {
            throw none();
        }
        int told = fewestOf(asTold());
        int bits = 0;
        boolean spent = told == -2;
        for (int i = 0; i < world.laws.size() && !spent; i++) {
            int without = fewestOf(new Setup(1 << i, asTold().hold, asTold().load));
            spent |= without == -2;
            boolean in = what == 0 ? without == told : told == -1 && without >= 0;
            bits |= truth(in) << i;
        }
        return spent ? -1 : bits;
    }

    int size(int what) {
        if (what < 0 || what > 1 || world.boats.isEmpty()) {
            throw none();
        }
        if (what == 0) {
            for (int hold = 1; hold <= 8; hold++) {
                int f = fewestOf(new Setup(0, hold, asTold().load));
                if (f != -1) {
                    return f == -2 ? -2 : hold;
                }
            }
            return -1;
        }
        int f = fewestOf(new Setup(0, asTold().hold, 999));
        if (f < 0) {
            return f;
        }
        int low = 0;
        int high = 999;
        while (low != high) {
            int mid = (low + high) / 2;
            f = fewestOf(new Setup(0, asTold().hold, mid));
            if (f == -2) {
                return -2;
            }
            if (f == -1) {
                low = mid + 1;
            } else {
                high = mid;
            }
        }
        return low;
    }

    int rounds() {
        if (world.shores != 2 || world.boats.size() != 2 || world.lamp >= 0
                || world.boats.get(0).hold > 3 || world.boats.get(1).hold > 3) {
            return -2;
        }
        Map<State, Integer> depth = new LinkedHashMap<>();
        List<State> row = new ArrayList<>();
        row.add(start());
        depth.put(start(), 0);
        boolean barred = ashore(start()) != 0;
        for (int k = 0; k < row.size(); k++) {
            State s = row.get(k);
            if (goal(s)) {
                return depth.get(s);
            }
            for (List<Crossing> round : roundsFrom(s)) {
                State water = s;
                State behind = s;
                int laws = 0;
                for (Crossing c : round) {
                    water = moved(water, c, -1);
                    behind = moved(behind, c, c.to);
                    laws |= barring(c.set, 2, 1, 0);
                }
                if (!barred && (laws | ashore(water) | ashore(behind)) == 0
                        && depth.putIfAbsent(behind, depth.get(s) + 1) == null) {
                    row.add(behind);
                }
            }
        }
        return -1;
    }

    private List<List<Crossing>> roundsFrom(State s) {
        List<List<Crossing>> rounds = new ArrayList<>();
        List<List<Crossing>> by = new ArrayList<>();
        for (int boat = 0; boat < 2; boat++) {
            List<Crossing> out = new ArrayList<>();
            for (int set = 1; set < 1 << world.things.size(); set++) {
                for (int to = 0; to < 2; to++) {
                    Crossing c = new Crossing(boat, to, set);
                    if (plainBar(s, c, asTold()) == 0) {
                        out.add(c);
                        rounds.add(List.of(c));
                    }
                }
            }
            by.add(out);
        }
        for (Crossing a : by.get(0)) {
            for (Crossing b : by.get(1)) {
                if ((a.set & b.set) == 0) {
                    rounds.add(List.of(a, b));
                }
            }
        }
        return rounds;
    }

    int alike(int thing) {
        needThing(thing);
        int like = 0;
        for (int other = 0; other < world.things.size(); other++) {
            boolean same = world.things.get(other).weight == world.things.get(thing).weight
                    && world.things.get(other).minutes == world.things.get(thing).minutes;
            for (int set = 0; set < 1 << world.things.size() && same; set++) {
                int swapped = set & ~(1 << thing | 1 << other) | (set >> thing & 1) << other | (set >> other & 1) << thing;
                for (int shore = 0; shore <= world.shores; shore++) {
                    for (int boats = 0; boats <= 2; boats++) {
                        same &= bars(set, shore, boats, false) == bars(swapped, shore, boats, false);
                        same &= bars(set, shore, boats, true) == bars(swapped, shore, boats, true);
                    }
                }
            }
            like |= truth(same) << other;
        }
        return like;
    }

    int cross(int boat, int to, int set) {
        barLaw = -1;
        if (made.size() == 60) {
            return 9;
        }
        State now = states.get(states.size() - 1);
        Crossing c = new Crossing(boat, to, set);
        Bar bar = judge(now, c, asTold());
        barLaw = bar.law;
        if (bar.number == 0) {
            made.add(c);
            states.add(moved(now, c, to));
        }
        return bar.number;
    }

    int law() {
        return barLaw;
    }

    int back() {
        if (made.isEmpty()) {
            return -1;
        }
        made.remove(made.size() - 1);
        states.remove(states.size() - 1);
        return made.size();
    }

    int play(int what) {
        State now = states.get(states.size() - 1);
        if (what == 0) {
            return made.stream().mapToInt(c -> minutes(c.set)).sum();
        }
        if (what == 1) {
            return truth(goal(now));
        }
        if (what == 2) {
            return now.lamp;
        }
        if (what >= 4 && what <= 5 && what - 4 < now.boats.size()) {
            return now.boats.get(what - 4);
        }
        if (what >= 8 && what - 8 < now.things.size()) {
            return now.things.get(what - 8);
        }
        throw none();
    }

    int hint(int what) {
        if (what < 0 || what > 3) {
            throw none();
        }
        Explored x = explore(asTold());
        if (x.spent) {
            return -2;
        }
        List<Crossing> row = best(x, states.get(states.size() - 1), false);
        if (what == 0 || row == null) {
            return row == null ? -1 : row.size();
        }
        if (row.isEmpty()) {
            return -1;
        }
        Crossing c = row.get(0);
        return what == 1 ? c.boat : what == 2 ? c.to : c.set;
    }
}
