import java.util.Arrays;
import java.util.NoSuchElementException;

/** Crossings of people, beasts and goods by boat: DOC.md says what each call answers. */
public final class FerryHall {
    public static final int NONE = -1;

    private static final int SPENT = -2;
    private static final int UNKNOWN = -3;
    private static final int TAPE_BYTES = 700;
    private static final int FEED_BYTES = 20;
    private static final int MOST_SHORES = 4;
    private static final int MOST_THINGS = 8;
    private static final int MOST_BOATS = 2;
    private static final int MOST_LAWS = 12;
    private static final int SETS = 256;
    private static final int MOST_HELD = 8;
    private static final int MOST_LOAD = 999;

    private final byte[] tape = new byte[TAPE_BYTES];
    private int taped = 0;
    private int faultPlace = NONE;
    private Model model = new Model();
    private Model spare = new Model();
    private final Reader reader = new Reader(tape, spare);
    private final Rules rules = new Rules(model);
    private final Graph graph = new Graph(rules);
    private final Paths paths = new Paths();
    private final WhatIf whatIf = new WhatIf();
    private final Rounds roundsSearch = new Rounds(rules);
    private final Way kept = new Way();
    private final Play game = new Play(rules);

    public FerryHall() {
        model.clear();
        model.spreadWater();
        rules.begin(model);
        game.begin();
    }

    public int feed(int a, int b, int c, int d, int e) {
        if (taped > TAPE_BYTES - FEED_BYTES) {
            return NONE;
        }
        tapeNumber(a);
        tapeNumber(b);
        tapeNumber(c);
        tapeNumber(d);
        tapeNumber(e);
        return taped;
    }

    private void tapeNumber(int number) {
        for (int shift = 24; shift >= 0 && taped < TAPE_BYTES; shift -= 8) {
            tape[taped] = (byte) (number >> shift);
            taped++;
        }
    }

    public int text(int n) throws IllegalArgumentException {
        if (n < 0 || n > taped) {
            throw new IllegalArgumentException("the tape has not so many bytes");
        }
        int fault = reader.read(n, spare);
        faultPlace = reader.place;
        taped = 0;
        if (fault == 0) {
            beginText();
        }
        return fault;
    }

    /** The models change places, so that a text with a fault leaves the one in use alone. */
    private void beginText() {
        Model read = spare;
        spare = model;
        model = read;
        rules.begin(model);
        graph.ready = false;
        whatIf.forget();
        roundsSearch.answer = UNKNOWN;
        kept.length = NONE;
        game.begin();
    }

    public int fault() {
        return faultPlace;
    }

    public int count(int what) throws NoSuchElementException {
        switch (what) {
            case 0:
                return model.shores;
            case 1:
                return model.things;
            case 2:
                return model.boats;
            case 3:
                return model.laws;
            case 4:
                return model.lamp == NONE ? 0 : 1;
            case 5:
                return game.made;
            case 6:
                return taped;
            default:
                throw new NoSuchElementException("no such count");
        }
    }

    public int thing(int thing, int what) throws NoSuchElementException {
        needThing(thing);
        switch (what) {
            case 0:
                return model.weights[thing];
            case 1:
                return model.minutes[thing];
            case 2:
                return model.letters[thing];
            default:
                throw new NoSuchElementException("no such number of a thing");
        }
    }

    private void needThing(int thing) {
        if (thing < 0 || thing >= model.things || thing >= MOST_THINGS) {
            throw new NoSuchElementException("no such thing");
        }
    }

    public int boat(int boat, int what) throws NoSuchElementException {
        if (boat < 0 || boat >= model.boats || boat >= MOST_BOATS) {
            throw new NoSuchElementException("no such boat");
        }
        switch (what) {
            case 0:
                return model.holds[boat];
            case 1:
                return model.loads[boat];
            case 2:
                return model.berths[boat];
            default:
                throw new NoSuchElementException("no such number of a boat");
        }
    }

    public boolean water(int from, int to) throws NoSuchElementException {
        if (from < 0 || from >= model.shores || to < 0 || to >= model.shores) {
            throw new NoSuchElementException("no such shore");
        }
        return model.flows(from, to);
    }

    public int bars(int set, int shore, int boats, boolean lamp) throws NoSuchElementException {
        needPlace(shore, boats);
        return rules.barring(set & model.all(), shore, boats, lamp ? 1 : 0);
    }

    public int safe(int shore, int boats, boolean lamp) throws NoSuchElementException {
        needPlace(shore, boats);
        int all = model.all();
        int sets = 0;
        for (int set = 1; set <= all; set++) {
            if (rules.barring(set, shore, boats, lamp ? 1 : 0) == 0) {
                sets++;
            }
        }
        return sets;
    }

    private void needPlace(int shore, int boats) {
        if (shore < 0 || shore > model.shores || boats < 0 || boats > MOST_BOATS) {
            throw new NoSuchElementException("no such shore, or not so many boats");
        }
    }

    public int reached(int what) throws NoSuchElementException {
        needWhat(what, 3);
        if (!explore()) {
            return NONE;
        }
        switch (what) {
            case 0:
                return graph.stateCount;
            case 1:
                return graph.edgeCount;
            case 2:
                return paths.hopeless(graph);
            default:
                return graph.farthest();
        }
    }

    private void needWhat(int what, int greatest) {
        if (what < 0 || what > greatest) {
            throw new NoSuchElementException("no such what");
        }
    }

    /** False: spent. What WhatIf tries overwrites the graph; only then it is built again. */
    private boolean explore() {
        if (!graph.ready) {
            graph.build(rules.everyLaw(), model.holds[0], model.loads[0]);
            graph.ready = true;
        }
        return !graph.spent;
    }

    public int fewest() {
        return explore() ? findWay(false) : SPENT;
    }

    public int quickest() {
        return explore() ? findWay(true) : SPENT;
    }

    private int findWay(boolean timed) {
        paths.measure(graph, 0, timed);
        if (paths.least == NONE) {
            return NONE;
        }
        kept.keep(graph, paths, rules);
        return timed ? kept.minutes : kept.length;
    }

    public int ways() {
        if (!explore()) {
            return SPENT;
        }
        paths.measure(graph, 0, false);
        return paths.waysFrom(0);
    }

    public int way(int i, int what) throws NoSuchElementException {
        needWhat(what, 3);
        if (i == NONE && kept.length != NONE && what == 0) {
            return kept.length;
        }
        if (i == NONE && kept.length != NONE && what == 3) {
            return kept.minutes;
        }
        if (i < 0 || i >= kept.length) {
            throw new NoSuchElementException("no such crossing");
        }
        int crossing = kept.crossing(i);
        return what == 3 ? rules.minutesOf(crossing & 255) : crossingPart(crossing, what);
    }

    private static int crossingPart(int crossing, int what) {
        if (what == 0) {
            return crossing >> 10 & 1;
        }
        return what == 1 ? crossing >> 8 & 3 : crossing & 255;
    }

    public int where(int crossings, int thing) throws NoSuchElementException {
        needThing(thing);
        if (crossings < 0 || crossings > kept.length) {
            throw new NoSuchElementException("the way has not so many crossings");
        }
        return kept.shoreBehind(crossings, thing);
    }

    public int rides(int thing, int what) throws NoSuchElementException {
        needThing(thing);
        needWhat(what, 1);
        if (kept.length == NONE) {
            throw new NoSuchElementException("no way is kept");
        }
        return what == 0 ? kept.crossingsOf(thing) : kept.timesAlone(thing, model.all());
    }

    public int laws(int what) throws NoSuchElementException {
        needWhat(what, 1);
        if (!whatIf.lawsKnown) {
            explore();
            whatIf.weighLaws(rules, graph);
        }
        return what == 0 ? whatIf.freeLaws : whatIf.aloneLaws;
    }

    public int size(int what) throws NoSuchElementException {
        needWhat(what, 1);
        if (model.boats == 0) {
            throw new NoSuchElementException("no boat");
        }
        return what == 0 ? whatIf.leastHeld(rules, graph) : whatIf.leastLoad(rules, graph);
    }

    public int rounds() {
        return roundsSearch.fewestRounds();
    }

    public int alike(int thing) throws NoSuchElementException {
        needThing(thing);
        int like = 0;
        for (int other = 0; other < model.things; other++) {
            if (other == thing || rules.sameThing(thing, other)) {
                like |= 1 << other;
            }
        }
        return like;
    }

    public int cross(int boat, int to, int set) {
        return game.tryCrossing(boat, to, set);
    }

    public int law() {
        return game.barringLaw;
    }

    public int back() {
        if (game.made == 0) {
            return NONE;
        }
        game.made--;
        return game.made;
    }

    public int play(int what) throws NoSuchElementException {
        int state = game.state();
        if (what == 0) {
            return game.minutesSoFar();
        }
        if (what == 1) {
            return model.isGoal(state) ? 1 : 0;
        }
        if (what == 2) {
            return model.lamp == NONE ? NONE : Layout.lampShore(state);
        }
        if (what >= 4 && what < 4 + model.boats) {
            return Layout.berth(state, what - 4);
        }
        if (what >= 8 && what < 8 + model.things) {
            return Layout.shoreOf(state, what - 8);
        }
        throw new NoSuchElementException("no such number of the play");
    }

    public int hint(int what) throws NoSuchElementException {
        needWhat(what, 3);
        if (!explore()) {
            return SPENT;
        }
        int source = graph.indexOf(game.state());
        paths.measure(graph, source, false);
        if (what == 0 || paths.least <= 0) {
            return what == 0 ? paths.least : NONE;
        }
        return crossingPart(paths.firstCrossing(graph, source), what - 1);
    }

    /** What a text tells. */
    private static final class Model {
        static final int EVERYWHERE = -1;
        static final int ASHORE = -2;
        static final int ABOARD = -3;

        int shores;
        int things;
        final int[] weights = new int[MOST_THINGS];
        final int[] minutes = new int[MOST_THINGS];
        final int[] letters = new int[MOST_THINGS];
        int boats;
        final int[] holds = new int[MOST_BOATS];
        final int[] loads = new int[MOST_BOATS];
        final int[] berths = new int[MOST_BOATS];
        int lamp;
        boolean waterTold;
        final int[] waters = new int[MOST_SHORES];
        int laws;
        final int[] scopes = new int[MOST_LAWS];
        final int[] codeStarts = new int[MOST_LAWS + 1];
        final int[] code = new int[TAPE_BYTES];
        int codeLength;

        void clear() {
            shores = 2;
            things = 0;
            boats = 0;
            lamp = NONE;
            waterTold = false;
            Arrays.fill(waters, 0);
            laws = 0;
            codeLength = 0;
        }

        void spreadWater() {
            for (int from = 0; from < MOST_SHORES; from++) {
                waters[from] = 15 & ~(1 << from);
            }
        }

        boolean flows(int from, int to) {
            return from >= 0 && from < MOST_SHORES && (waters[from] >> to & 1) != 0;
        }

        /** The set of all things. */
        int all() {
            return (1 << things) - 1;
        }

        int lampAlong() {
            return lamp == NONE ? 0 : 1;
        }

        boolean isGoal(int state) {
            return (state & 0xFFFF) == Layout.placed(0, all(), shores - 1);
        }

        int start() {
            int state = lamp == NONE ? 0 : Layout.lit(0, lamp);
            for (int boat = 0; boat < boats && boat < MOST_BOATS; boat++) {
                state = Layout.moored(state, boat, berths[boat]);
            }
            return state;
        }

        int after(int state, int boat, int to, int set) {
            int moved = Layout.moored(Layout.placed(state, set, to), boat, to);
            return lamp == NONE ? moved : Layout.lit(moved, to);
        }

        int boatsAt(int state, int shore) {
            int lying = 0;
            for (int boat = 0; boat < boats; boat++) {
                if (Layout.berth(state, boat) == shore) {
                    lying++;
                }
            }
            return lying;
        }

        int lampAt(int state, int shore) {
            return lamp != NONE && Layout.lampShore(state) == shore ? 1 : 0;
        }
    }

    /**
     * A state as one number: of each thing the low bit of its shore in bits 0 to 7 and the high bit in 8 to 15,
     * so that a set moves by masks alone; the boats' shores behind, then the lamp's (0 without one).
     */
    private static final class Layout {
        static int placed(int state, int set, int shore) {
            int low = (shore & 1) != 0 ? set : 0;
            int high = (shore & 2) != 0 ? set << 8 : 0;
            return state & ~(set | set << 8) | low | high;
        }

        static int moored(int state, int boat, int shore) {
            int shift = 16 + 2 * boat;
            return state & ~(3 << shift) | shore << shift;
        }

        static int lit(int state, int shore) {
            return state & ~(3 << 20) | shore << 20;
        }

        static int ashore(int state, int shore, int all) {
            int low = (shore & 1) != 0 ? state : ~state;
            int high = (shore & 2) != 0 ? state >> 8 : ~(state >> 8);
            return low & high & all;
        }

        static int shoreOf(int state, int thing) {
            return (state >> thing & 1) | (state >> (8 + thing) & 1) << 1;
        }

        static int berth(int state, int boat) {
            return state >> (16 + 2 * boat) & 3;
        }

        static int lampShore(int state) {
            return state >> 20 & 3;
        }
    }

    /** What a law's code is made of: numbers as they are, then these; operators follow what they work on. */
    private static final class Code {
        static final int THING = 1000;
        static final int MANY = 1100;
        static final int WEIGHT = 1101;
        static final int ROWERS = 1102;
        static final int BOATS = 1103;
        static final int LAMP = 1104;
        static final int SHORE = 1105;
        static final int OPERATORS = 1200;
        static final int OR = 1200;
        static final int AND = 1201;
        static final int LESS = 1202;
        static final int EQUAL = 1203;
        static final int PLUS = 1204;
        static final int MINUS = 1205;
        static final int TIMES = 1206;
        static final int OVER = 1207;
        static final int NOT = 1208;

        static int combine(int operator, int left, int right) {
            switch (operator) {
                case OR:
                    return left != 0 || right != 0 ? 1 : 0;
                case AND:
                    return left != 0 && right != 0 ? 1 : 0;
                case LESS:
                    return left < right ? 1 : 0;
                case EQUAL:
                    return left == right ? 1 : 0;
                case PLUS:
                    return left + right;
                case MINUS:
                    return left - right;
                case TIMES:
                    return left * right;
                default:
                    return right == 0 ? 0 : left / right;
            }
        }
    }

    /** Reads a text into a model. Behind the first fault no token fits any more, so that all reading ends. */
    private static final class Reader {
        private static final int END = 0;
        private static final int WORD = 1;
        private static final int NUMBER = 2;
        private static final int SIGN = 3;
        private static final int NO_TOKEN = 4;

        private static final int OR_LEVEL = 0;
        private static final int AND_LEVEL = 1;
        private static final int NOT_LEVEL = 2;
        private static final int SUM_LEVEL = 3;
        private static final int PRODUCT_LEVEL = 4;
        private static final int PART_LEVEL = 5;
        private static final int MOST_NESTS = 6;
        private static final int MOST_NOTS = 6;

        private final byte[] bytes;
        private Model model;
        private int length = 0;
        private int behind = 0;
        private int kind = END;
        private int start = 0;
        private int digits = 0;
        private int fault = 0;
        int place = NONE;

        Reader(byte[] tape, Model into) {
            bytes = tape;
            model = into;
        }

        int read(int n, Model into) {
            length = Math.min(n, bytes.length);
            behind = 0;
            fault = 0;
            place = NONE;
            model = into;
            model.clear();
            advance();
            readShores();
            for (int clauses = 0; clauses < TAPE_BYTES && fault == 0 && kind != END; clauses++) {
                readClause();
            }
            if (!model.waterTold) {
                model.spreadWater();
            }
            return fault;
        }

        private void advance() {
            while (behind < length && (bytes[behind] == 32 || bytes[behind] == 10)) {
                behind++;
            }
            start = behind;
            if (behind >= length) {
                kind = END;
            } else if (isLetter(behind)) {
                kind = WORD;
                while (behind < length && isLetter(behind)) {
                    behind++;
                }
            } else if (isDigit(behind)) {
                kind = NUMBER;
                digits = 0;
                while (behind < length && isDigit(behind)) {
                    digits = behind - start < 3 ? digits * 10 + bytes[behind] - '0' : digits;
                    behind++;
                }
            } else {
                kind = isSignByte(bytes[behind]) ? SIGN : NO_TOKEN;
                behind++;
            }
        }

        private boolean isLetter(int at) {
            return at >= 0 && at < bytes.length && bytes[at] >= 'a' && bytes[at] <= 'z';
        }

        private boolean isDigit(int at) {
            return at >= 0 && at < bytes.length && bytes[at] >= '0' && bytes[at] <= '9';
        }

        private static boolean isSignByte(int sign) {
            switch (sign) {
                case ';':
                case '(':
                case ')':
                case '+':
                case '-':
                case '*':
                case '/':
                case '<':
                case '=':
                    return true;
                default:
                    return false;
            }
        }

        private void fail(int number) {
            if (fault == 0) {
                fault = number;
                place = start;
                kind = NO_TOKEN;
            }
        }

        private boolean isWord(String word) {
            if (kind != WORD || behind - start != word.length()) {
                return false;
            }
            for (int i = 0; i < word.length() && start + i < bytes.length; i++) {
                if (bytes[start + i] != word.charAt(i)) {
                    return false;
                }
            }
            return true;
        }

        private boolean isName() {
            return kind == WORD && behind - start == 1;
        }

        private boolean isSign(char sign) {
            return kind == SIGN && start < bytes.length && bytes[start] == sign;
        }

        private boolean takeWord(String word) {
            boolean found = isWord(word);
            if (found) {
                advance();
            }
            return found;
        }

        private void needWord(String word) {
            if (!takeWord(word)) {
                fail(1);
            }
        }

        private void needSign(char sign) {
            if (isSign(sign)) {
                advance();
            } else {
                fail(1);
            }
        }

        private int needNumber(int least, int greatest) {
            if (kind != NUMBER) {
                fail(1);
                return least;
            }
            if (behind - start > 3 || digits < least || digits > greatest) {
                fail(2);
                return least;
            }
            int number = digits;
            advance();
            return number;
        }

        /** other: the shore that this one may not be, or NONE. */
        private int needShore(int other) {
            if (kind == NUMBER && behind - start <= 3) {
                if (digits >= model.shores) {
                    fail(4);
                } else if (digits == other) {
                    fail(5);
                }
            }
            return needNumber(0, MOST_SHORES - 1);
        }

        private void readShores() {
            if (takeWord("shores")) {
                model.shores = needNumber(2, MOST_SHORES);
                needSign(';');
            }
        }

        private void readClause() {
            if (isWord("thing")) {
                readThing();
            } else if (isWord("boat")) {
                readBoat();
            } else if (isWord("water")) {
                readWater(true);
            } else if (isWord("way")) {
                readWater(false);
            } else if (isWord("lamp")) {
                readLamp();
            } else if (isWord("never")) {
                readLaw();
            } else {
                fail(1);
            }
            needSign(';');
        }

        private void readThing() {
            int thing = model.things;
            if (thing < 0 || thing >= MOST_THINGS) {
                fail(2);
                return;
            }
            advance();
            int letter = needNewName();
            needWord("weight");
            int weight = needNumber(0, 99);
            int minutes = takeWord("rows") ? needNumber(1, 99) : 0;
            model.letters[thing] = letter;
            model.weights[thing] = weight;
            model.minutes[thing] = minutes;
            model.things = thing + 1;
        }

        private int needNewName() {
            if (!isName() || start >= bytes.length) {
                fail(1);
                return 0;
            }
            int letter = bytes[start];
            if (thingNamed(letter) != NONE) {
                fail(5);
                return 0;
            }
            advance();
            return letter;
        }

        private int thingNamed(int letter) {
            for (int thing = 0; thing < model.things && thing < MOST_THINGS; thing++) {
                if (model.letters[thing] == letter) {
                    return thing;
                }
            }
            return NONE;
        }

        private void readBoat() {
            int boat = model.boats;
            if (boat < 0 || boat >= MOST_BOATS) {
                fail(2);
                return;
            }
            advance();
            needWord("holds");
            model.holds[boat] = needNumber(1, MOST_HELD);
            needWord("load");
            model.loads[boat] = needNumber(0, MOST_LOAD);
            needWord("at");
            model.berths[boat] = needShore(NONE);
            model.boats = boat + 1;
        }

        private void readWater(boolean bothWays) {
            advance();
            int from = needShore(NONE);
            int to = needShore(from);
            if (fault != 0 || from >= MOST_SHORES || to >= MOST_SHORES) {
                return;
            }
            model.waterTold = true;
            model.waters[from] |= 1 << to;
            if (bothWays) {
                model.waters[to] |= 1 << from;
            }
        }

        private void readLamp() {
            if (model.lamp != NONE) {
                fail(5);
                return;
            }
            advance();
            needWord("at");
            model.lamp = needShore(NONE);
        }

        private void readLaw() {
            int law = model.laws;
            if (law < 0 || law >= MOST_LAWS) {
                fail(2);
                return;
            }
            advance();
            model.codeStarts[law] = model.codeLength;
            readExpr(OR_LEVEL, 0);
            int scope = Model.EVERYWHERE;
            if (takeWord("ashore")) {
                scope = Model.ASHORE;
            } else if (takeWord("aboard")) {
                scope = Model.ABOARD;
            } else if (takeWord("at")) {
                scope = needShore(NONE);
            }
            model.scopes[law] = scope;
            model.codeStarts[law + 1] = model.codeLength;
            model.laws = law + 1;
        }

        /** nest: how many other expressions this one is within; readNested keeps it under MOST_NESTS. */
        private void readExpr(int level, int nest) {
            if (level == NOT_LEVEL) {
                readNot(nest);
            } else if (level >= PART_LEVEL) {
                readPart(nest);
            } else {
                readRow(level, nest);
            }
        }

        private void readRow(int level, int nest) {
            readExpr(level + 1, nest);
            for (int tokens = 0; tokens < TAPE_BYTES; tokens++) {
                int operator = operatorOf(level);
                if (operator == NONE) {
                    return;
                }
                advance();
                readExpr(level + 1, nest);
                emit(operator);
            }
        }

        private int operatorOf(int level) {
            switch (level) {
                case OR_LEVEL:
                    return isWord("or") ? Code.OR : NONE;
                case AND_LEVEL:
                    return isWord("and") ? Code.AND : NONE;
                case NOT_LEVEL:
                    return oneOf('<', Code.LESS, '=', Code.EQUAL);
                case SUM_LEVEL:
                    return oneOf('+', Code.PLUS, '-', Code.MINUS);
                default:
                    return oneOf('*', Code.TIMES, '/', Code.OVER);
            }
        }

        private int oneOf(char first, int firstOperator, char second, int secondOperator) {
            if (isSign(first)) {
                return firstOperator;
            }
            return isSign(second) ? secondOperator : NONE;
        }

        private void readNot(int nest) {
            int nots = 0;
            while (nots < MOST_NOTS && takeWord("not")) {
                nots++;
            }
            if (nots == MOST_NOTS && isWord("not")) {
                fail(2);
            }
            readExpr(SUM_LEVEL, nest);
            int test = operatorOf(NOT_LEVEL);
            if (test != NONE) {
                advance();
                readExpr(SUM_LEVEL, nest);
                emit(test);
            }
            for (int i = 0; i < nots; i++) {
                emit(Code.NOT);
            }
        }

        private void readPart(int nest) {
            if (kind == NUMBER) {
                emit(needNumber(0, 999));
            } else if (isName()) {
                readName();
            } else if (kind == WORD) {
                readMeasure();
            } else if (isSign('(')) {
                advance();
                readNested(nest + 1);
                needSign(')');
            } else {
                fail(1);
            }
        }

        private void readNested(int nest) {
            if (nest < MOST_NESTS) {
                readExpr(OR_LEVEL, nest);
            } else {
                fail(kind == NUMBER || kind == WORD || isSign('(') ? 2 : 1);
            }
        }

        private void readName() {
            int thing = start < bytes.length ? thingNamed(bytes[start]) : NONE;
            if (thing == NONE) {
                fail(4);
                return;
            }
            emit(Code.THING + thing);
            advance();
        }

        private void readMeasure() {
            if (isWord("many")) {
                emit(Code.MANY);
            } else if (isWord("weight")) {
                emit(Code.WEIGHT);
            } else if (isWord("rowers")) {
                emit(Code.ROWERS);
            } else if (isWord("boats")) {
                emit(Code.BOATS);
            } else if (isWord("lamp")) {
                emit(Code.LAMP);
            } else if (isWord("shore")) {
                emit(Code.SHORE);
            } else {
                fail(3);
                return;
            }
            advance();
        }

        private void emit(int code) {
            if (model.codeLength < TAPE_BYTES) {
                model.code[model.codeLength] = code;
                model.codeLength++;
            }
        }
    }

    /** Which laws bar a group. Each group is asked of the laws once a text and kept. */
    private static final class Rules {
        private static final int PLACES = (MOST_SHORES + 1) * (MOST_BOATS + 1) * 2;
        private static final int DEEPEST = 64;

        Model model;
        private final int[] known = new int[PLACES * SETS];
        private final int[] manyRow = new int[SETS];
        private final int[] rowerRow = new int[SETS];
        private final int[] weightRow = new int[SETS];
        private final int[] minuteRow = new int[SETS];
        private final int[] stack = new int[DEEPEST];

        Rules(Model first) {
            model = first;
        }

        void begin(Model read) {
            model = read;
            Arrays.fill(known, NONE);
            for (int thing = 0; thing < model.things && thing < MOST_THINGS; thing++) {
                addThing(thing);
            }
        }

        /** The sets whose highest thing this is, from those without it. */
        private void addThing(int thing) {
            int bit = 1 << thing;
            int rower = model.minutes[thing] > 0 ? 1 : 0;
            for (int set = 0; set < bit && bit + set < SETS; set++) {
                manyRow[bit + set] = manyRow[set] + 1;
                rowerRow[bit + set] = rowerRow[set] + rower;
                weightRow[bit + set] = weightRow[set] + model.weights[thing];
                minuteRow[bit + set] = Math.max(minuteRow[set], model.minutes[thing]);
            }
        }

        int minutesOf(int set) {
            return set < 0 || set >= SETS ? 0 : minuteRow[set];
        }

        int weightOf(int set) {
            return set < 0 || set >= SETS ? 0 : weightRow[set];
        }

        int manyOf(int set) {
            return set < 0 || set >= SETS ? 0 : manyRow[set];
        }

        int rowersOf(int set) {
            return set < 0 || set >= SETS ? 0 : rowerRow[set];
        }

        int everyLaw() {
            return (1 << model.laws) - 1;
        }

        boolean fits(int set, int hold, int load) {
            return rowersOf(set) > 0 && manyOf(set) <= hold && weightOf(set) <= load;
        }

        /** The laws (bits) that bar a group; shore: model.shores stands for aboard. */
        int barring(int set, int shore, int boats, int lamp) {
            int lying = shore == model.shores ? 1 : boats;
            int at = ((shore * (MOST_BOATS + 1) + lying) * 2 + lamp) * SETS + set;
            if (set <= 0 || set >= SETS || at < 0 || at >= known.length) {
                return 0;
            }
            if (known[at] == NONE) {
                int laws = 0;
                for (int law = 0; law < model.laws; law++) {
                    if (goesFor(law, shore) && value(law, set, shore, lying, lamp) != 0) {
                        laws |= 1 << law;
                    }
                }
                known[at] = laws;
            }
            return known[at];
        }

        private boolean goesFor(int law, int shore) {
            int scope = law >= 0 && law < MOST_LAWS ? model.scopes[law] : Model.EVERYWHERE;
            if (scope == Model.EVERYWHERE) {
                return true;
            }
            if (scope == Model.ASHORE) {
                return shore != model.shores;
            }
            return scope == Model.ABOARD ? shore == model.shores : shore == scope;
        }

        private int value(int law, int set, int shore, int boats, int lamp) {
            if (law < 0 || law >= MOST_LAWS) {
                return 0;
            }
            int end = Math.min(model.codeStarts[law + 1], TAPE_BYTES);
            int top = 0;
            for (int i = Math.max(model.codeStarts[law], 0); i < end; i++) {
                int code = model.code[i];
                if (code < Code.OPERATORS && top < DEEPEST) {
                    stack[top] = operand(code, set, shore, boats, lamp);
                    top++;
                } else if (code == Code.NOT && top > 0) {
                    stack[top - 1] = stack[top - 1] == 0 ? 1 : 0;
                } else if (top > 1) {
                    top--;
                    stack[top - 1] = Code.combine(code, stack[top - 1], stack[top]);
                }
            }
            return stack[0];
        }

        private int operand(int code, int set, int shore, int boats, int lamp) {
            switch (code) {
                case Code.MANY:
                    return manyRow[set & 255];
                case Code.WEIGHT:
                    return weightRow[set & 255];
                case Code.ROWERS:
                    return rowerRow[set & 255];
                case Code.BOATS:
                    return boats;
                case Code.LAMP:
                    return lamp;
                case Code.SHORE:
                    return shore;
                default:
                    return code < Code.THING ? code : set >> (code - Code.THING) & 1;
            }
        }

        /** The laws that bar a group at a shore of a state. */
        int barringAshore(int state) {
            int laws = 0;
            for (int shore = 0; shore < model.shores; shore++) {
                int group = Layout.ashore(state, shore, model.all());
                laws |= barring(group, shore, model.boatsAt(state, shore), model.lampAt(state, shore));
            }
            return laws;
        }

        /** The laws that bar a group, aboard or at a shore, while the boat is on the water with the set. */
        int barringOnWater(int state, int boat, int set) {
            int laws = barring(set, model.shores, 1, model.lampAlong());
            int from = Layout.berth(state, boat);
            for (int shore = 0; shore < model.shores; shore++) {
                int group = Layout.ashore(state, shore, model.all()) & ~set;
                int boats = model.boatsAt(state, shore) - (shore == from ? 1 : 0);
                laws |= barring(group, shore, boats, 0);
            }
            return laws;
        }

        boolean sameThing(int one, int other) {
            if (one < 0 || one >= MOST_THINGS || other < 0 || other >= MOST_THINGS
                    || model.weights[one] != model.weights[other] || model.minutes[one] != model.minutes[other]) {
                return false;
            }
            for (int shore = 0; shore <= model.shores; shore++) {
                for (int boats = 0; boats <= MOST_BOATS; boats++) {
                    if (!sameGroups(1 << one, 1 << other, shore, boats)) {
                        return false;
                    }
                }
            }
            return true;
        }

        private boolean sameGroups(int one, int other, int shore, int boats) {
            int both = one | other;
            for (int set = 0; set <= model.all(); set++) {
                if ((set & both) == one) {
                    int changed = set ^ both;
                    if (barring(set, shore, boats, 0) != barring(changed, shore, boats, 0)
                            || barring(set, shore, boats, 1) != barring(changed, shore, boats, 1)) {
                        return false;
                    }
                }
            }
            return true;
        }
    }

    /**
     * All states that crossings come to, in the order of their distance from the start, with the crossings from each
     * in their own order. An edge: the state it comes to (11 bits), behind it the crossing (set, shore, boat).
     */
    private static final class Graph {
        static final int MOST_STATES = 2000;
        static final int MOST_EDGES = 40000;
        static final int CROSSING_SHIFT = 11;
        private static final int FIRST_EDGES = 2500;
        private static final int SLOTS = 4096;

        boolean ready = false;
        int builds = 0;
        boolean spent = false;
        int stateCount = 0;
        int edgeCount = 0;
        int goalDepth = NONE;
        final Rules rules;
        private Model model;
        private int active = 0;
        private int nextDepth = 0;
        private final int[] states = new int[MOST_STATES];
        private final int[] depths = new int[MOST_STATES];
        private final int[] firstEdges = new int[MOST_STATES + 1];
        private int[] edges = new int[FIRST_EDGES];
        private final int[] slots = new int[SLOTS];
        private final boolean[] fitting = new boolean[MOST_BOATS * SETS];

        Graph(Rules of) {
            rules = of;
            model = of.model;
        }

        /** barring: the laws that bar; hold, load: what boat 0 bears. The fewest crossings, NONE or SPENT. */
        int build(int barring, int hold, int load) {
            model = rules.model;
            active = barring;
            ready = false;
            builds++;
            spent = false;
            stateCount = 0;
            edgeCount = 0;
            goalDepth = NONE;
            Arrays.fill(slots, 0);
            markFitting(0, hold, load);
            markFitting(1, model.holds[1], model.loads[1]);
            int start = model.start();
            addState(start, 0);
            boolean barred = (rules.barringAshore(start) & active) != 0;
            for (int i = 0; i < stateCount && i < MOST_STATES && !spent; i++) {
                firstEdges[i] = edgeCount;
                nextDepth = depths[i] + 1;
                for (int boat = 0; boat < model.boats && !barred; boat++) {
                    if (mayLeave(states[i], boat)) {
                        addCrossings(states[i], boat);
                    }
                }
                firstEdges[i + 1] = edgeCount;
            }
            return spent ? SPENT : goalDepth;
        }

        private void markFitting(int boat, int hold, int load) {
            for (int set = 1; set <= model.all() && set < SETS; set++) {
                fitting[boat * SETS + set] = rules.fits(set, hold, load)
                        && (rules.barring(set, model.shores, 1, model.lampAlong()) & active) == 0;
            }
        }

        private boolean mayLeave(int state, int boat) {
            return model.lamp == NONE || Layout.lampShore(state) == Layout.berth(state, boat);
        }

        /**
         * Three groups are asked: the one aboard (fitting), the one left, which is the same on the water and behind the
         * crossing, and the one come to. Those at other shores are as they were, and no state here is barred.
         */
        private void addCrossings(int state, int boat) {
            int from = Layout.berth(state, boat);
            int present = Layout.ashore(state, from, model.all());
            int boatsLeft = model.boatsAt(state, from) - 1;
            for (int to = 0; to < model.shores; to++) {
                int there = Layout.ashore(state, to, model.all());
                int boatsThere = model.boatsAt(state, to) + 1;
                int set = 0;
                for (int i = 0; i < SETS && model.flows(from, to) && !spent; i++) {
                    set = (set - present) & present;
                    if (set == 0) {
                        break;
                    }
                    if (fitting[(boat & 1) * SETS + (set & 255)]
                            && (rules.barring(present & ~set, from, boatsLeft, 0) & active) == 0
                            && (rules.barring(there | set, to, boatsThere, model.lampAlong()) & active) == 0) {
                        addEdge(state, boat, to, set);
                    }
                }
            }
        }

        private void addEdge(int state, int boat, int to, int set) {
            int after = model.after(state, boat, to, set);
            int target = indexOf(after);
            if (target == NONE) {
                target = stateCount;
                addState(after, nextDepth);
            }
            if (edgeCount >= MOST_EDGES) {
                spent = true;
            }
            if (spent) {
                return;
            }
            if (edgeCount >= edges.length) {
                edges = Arrays.copyOf(edges, Math.min(4 * edges.length, MOST_EDGES));
            }
            int crossing = boat << 10 | to << 8 | set;
            edges[edgeCount] = crossing << CROSSING_SHIFT | target;
            edgeCount++;
        }

        private void addState(int state, int depth) {
            if (stateCount >= MOST_STATES) {
                spent = true;
                return;
            }
            states[stateCount] = state;
            depths[stateCount] = depth;
            int slot = slotOf(state);
            slots[slot] = stateCount + 1;
            if (goalDepth == NONE && model.isGoal(state)) {
                goalDepth = depth;
            }
            stateCount++;
        }

        /** The slot that a state has, or the free one it would get; more than half of the slots stay free. */
        private int slotOf(int state) {
            int slot = state * 0x9E3779B1 >>> 20;
            for (int i = 0; i < SLOTS; i++) {
                int index = slots[slot] - 1;
                if (index < 0 || index >= MOST_STATES || states[index] == state) {
                    return slot;
                }
                slot = (slot + 1) % SLOTS;
            }
            return slot;
        }

        int indexOf(int state) {
            return slots[slotOf(state)] - 1;
        }

        int farthest() {
            return stateCount > 0 && stateCount <= MOST_STATES ? depths[stateCount - 1] : 0;
        }

        boolean isGoal(int index) {
            return index >= 0 && index < stateCount && index < MOST_STATES && model.isGoal(states[index]);
        }

        int firstEdge(int index) {
            return index >= 0 && index <= stateCount && index <= MOST_STATES ? firstEdges[index] : 0;
        }

        int edge(int at) {
            return at >= 0 && at < edgeCount && at < edges.length ? edges[at] : 0;
        }

        static int target(int edge) {
            return edge & (1 << CROSSING_SHIFT) - 1;
        }
    }

    /**
     * Shortest ways within a graph. A length is a number of crossings, or minutes (shifted) and the crossings behind
     * them, so that of like minutes the fewest crossings are the least.
     */
    private static final class Paths {
        static final int MINUTES_SHIFT = 12;
        private static final int MOST_WAYS = 1000000000;
        private static final int ROW = Graph.MOST_STATES;
        private static final int FAR = Integer.MAX_VALUE;

        int least = NONE;
        private int measuredBuild = 0;
        private int measuredFrom = NONE;
        private boolean timed = false;
        private int settled = 0;
        private int heaped = 0;
        private final int[] lengths = new int[ROW];
        private final int[] order = new int[ROW];
        private final int[] heap = new int[ROW];
        private final int[] spots = new int[ROW];
        private final int[] wayCounts = new int[ROW];

        /**
         * From one state: all lengths, the least one to a goal (NONE: no way), how many ways are as short. Asked the
         * same again, the rows still tell it.
         */
        void measure(Graph graph, int source, boolean byMinutes) {
            if (measuredBuild == graph.builds && measuredFrom == source && timed == byMinutes) {
                return;
            }
            measuredBuild = graph.builds;
            measuredFrom = source;
            timed = byMinutes;
            least = NONE;
            settled = 0;
            heaped = 0;
            Arrays.fill(lengths, FAR);
            Arrays.fill(spots, NONE);
            Arrays.fill(wayCounts, 0);
            if (source < 0 || source >= ROW) {
                return;
            }
            shorten(source, 0);
            for (int i = 0; i < ROW && heaped > 0; i++) {
                int nearest = takeNearest();
                order[i] = nearest;
                settled = i + 1;
                if (least == NONE && graph.isGoal(nearest)) {
                    least = lengthOf(nearest);
                }
                for (int at = graph.firstEdge(nearest); at < graph.firstEdge(nearest + 1); at++) {
                    int edge = graph.edge(at);
                    shorten(Graph.target(edge), lengthOf(nearest) + weight(graph, edge));
                }
            }
            countWays(graph);
        }

        private int lengthOf(int state) {
            return state >= 0 && state < ROW ? lengths[state] : FAR;
        }

        private int weight(Graph graph, int edge) {
            if (!timed) {
                return 1;
            }
            int set = edge >> Graph.CROSSING_SHIFT & 255;
            return (graph.rules.minutesOf(set) << MINUTES_SHIFT) + 1;
        }

        private void shorten(int state, int length) {
            if (state < 0 || state >= ROW || length >= lengths[state]) {
                return;
            }
            lengths[state] = length;
            int spot = spots[state];
            if (spot == NONE && heaped < ROW) {
                spot = heaped;
                heaped++;
            }
            lift(spot, state);
        }

        private void lift(int from, int state) {
            int spot = from;
            while (spot > 0 && spot < ROW) {
                int above = (spot - 1) / 2;
                if (lengthOf(heap[above]) <= lengthOf(state)) {
                    break;
                }
                put(spot, heap[above]);
                spot = above;
            }
            put(spot, state);
        }

        private void put(int spot, int state) {
            if (spot >= 0 && spot < ROW && state >= 0 && state < ROW) {
                heap[spot] = state;
                spots[state] = spot;
            }
        }

        private int takeNearest() {
            int nearest = heap[0];
            heaped--;
            if (heaped > 0 && heaped < ROW) {
                lower(heap[heaped]);
            }
            return nearest;
        }

        private void lower(int state) {
            int spot = 0;
            for (int below = 1; below < heaped && below < ROW; below = 2 * spot + 1) {
                int right = below + 1;
                boolean isLesser = right < heaped && right < ROW && lengthOf(heap[right]) < lengthOf(heap[below]);
                int lesser = isLesser ? right : below;
                if (lengthOf(heap[lesser]) >= lengthOf(state)) {
                    break;
                }
                put(spot, heap[lesser]);
                spot = lesser;
            }
            put(spot, state);
        }

        /** Backwards: what lies behind a state on a shortest way has been settled later than it. */
        private void countWays(Graph graph) {
            for (int i = Math.min(settled, ROW) - 1; i >= 0 && least != NONE; i--) {
                int state = order[i];
                if (state < 0 || state >= ROW) {
                    continue;
                }
                if (lengths[state] == least && graph.isGoal(state)) {
                    wayCounts[state] = 1;
                } else if (lengths[state] < least) {
                    wayCounts[state] = waysThrough(graph, state);
                }
            }
        }

        private int waysThrough(Graph graph, int state) {
            int ways = 0;
            for (int at = graph.firstEdge(state); at < graph.firstEdge(state + 1); at++) {
                int edge = graph.edge(at);
                if (leadsOn(graph, state, edge)) {
                    ways = Math.min(ways + waysFrom(Graph.target(edge)), MOST_WAYS);
                }
            }
            return ways;
        }

        /** Whether an edge from a state lies on a shortest way to a goal. */
        private boolean leadsOn(Graph graph, int state, int edge) {
            int target = Graph.target(edge);
            return state >= 0 && state < ROW && target < ROW && wayCounts[target] > 0
                    && lengths[target] == lengths[state] + weight(graph, edge);
        }

        int waysFrom(int state) {
            return state >= 0 && state < ROW ? wayCounts[state] : 0;
        }

        /** The first edge in order that a shortest way from a state has; NONE at a goal. */
        int firstStep(Graph graph, int state) {
            for (int at = graph.firstEdge(state); at < graph.firstEdge(state + 1); at++) {
                if (leadsOn(graph, state, graph.edge(at))) {
                    return graph.edge(at);
                }
            }
            return NONE;
        }

        int firstCrossing(Graph graph, int state) {
            return firstStep(graph, state) >> Graph.CROSSING_SHIFT;
        }

        /** How many states have no way: those that no goal is found from, however often all are looked through. */
        int hopeless(Graph graph) {
            int without = graph.stateCount;
            measuredBuild = 0;
            Arrays.fill(wayCounts, 0);
            boolean found = true;
            for (int pass = 0; pass <= ROW && found; pass++) {
                found = false;
                for (int state = Math.min(graph.stateCount, ROW) - 1; state >= 0; state--) {
                    if (wayCounts[state] == 0 && (graph.isGoal(state) || leadsToHope(graph, state))) {
                        wayCounts[state] = 1;
                        without--;
                        found = true;
                    }
                }
            }
            return without;
        }

        private boolean leadsToHope(Graph graph, int state) {
            for (int at = graph.firstEdge(state); at < graph.firstEdge(state + 1); at++) {
                if (waysFrom(Graph.target(graph.edge(at))) > 0) {
                    return true;
                }
            }
            return false;
        }
    }

    /** The way that is kept. */
    private static final class Way {
        int length = NONE;
        int minutes = 0;
        private final int[] crossings = new int[Graph.MOST_STATES];

        void keep(Graph graph, Paths paths, Rules rules) {
            length = 0;
            minutes = 0;
            int edge = paths.firstStep(graph, 0);
            for (int i = 0; i < Graph.MOST_STATES && edge != NONE; i++) {
                crossings[i] = edge >> Graph.CROSSING_SHIFT;
                minutes += rules.minutesOf(crossings[i] & 255);
                length = i + 1;
                edge = paths.firstStep(graph, Graph.target(edge));
            }
        }

        int crossing(int i) {
            return i >= 0 && i < length && i < Graph.MOST_STATES ? crossings[i] : 0;
        }

        private boolean carries(int i, int thing) {
            return (crossing(i) >> thing & 1) != 0;
        }

        int shoreBehind(int many, int thing) {
            for (int i = many - 1; i >= 0; i--) {
                if (carries(i, thing)) {
                    return crossing(i) >> 8 & 3;
                }
            }
            return 0;
        }

        int crossingsOf(int thing) {
            int often = 0;
            for (int i = 0; i < length; i++) {
                if (carries(i, thing)) {
                    often++;
                }
            }
            return often;
        }

        int timesAlone(int thing, int all) {
            int state = 0;
            int times = 0;
            for (int i = 0; i < length; i++) {
                state = Layout.placed(state, crossing(i) & 255, crossing(i) >> 8 & 3);
                if (Layout.ashore(state, Layout.shoreOf(state, thing), all) == 1 << thing) {
                    times++;
                }
            }
            return times;
        }
    }

    /** What changed laws or another boat 0 would bring. Each answer is found once a text. */
    private static final class WhatIf {
        boolean lawsKnown = false;
        int freeLaws = 0;
        int aloneLaws = 0;
        private int held = UNKNOWN;
        private int load = UNKNOWN;

        void forget() {
            lawsKnown = false;
            held = UNKNOWN;
            load = UNKNOWN;
        }

        /** graph: as the text tells it; it is another one behind. */
        void weighLaws(Rules rules, Graph graph) {
            Model model = rules.model;
            int told = graph.spent ? SPENT : graph.goalDepth;
            boolean spent = graph.spent;
            lawsKnown = true;
            freeLaws = 0;
            aloneLaws = 0;
            for (int law = 0; law < model.laws && !spent; law++) {
                int without = graph.build(rules.everyLaw() & ~(1 << law), model.holds[0], model.loads[0]);
                spent = without == SPENT;
                if (without == told) {
                    freeLaws |= 1 << law;
                } else if (told == NONE) {
                    aloneLaws |= 1 << law;
                }
            }
            if (spent) {
                freeLaws = NONE;
                aloneLaws = NONE;
            }
        }

        int leastHeld(Rules rules, Graph graph) {
            if (held == UNKNOWN) {
                held = NONE;
                for (int hold = 1; hold <= MOST_HELD && held == NONE; hold++) {
                    int fewest = graph.build(rules.everyLaw(), hold, rules.model.loads[0]);
                    held = fewest >= 0 ? hold : fewest;
                }
            }
            return held;
        }

        int leastLoad(Rules rules, Graph graph) {
            if (load != UNKNOWN) {
                return load;
            }
            int hold = rules.model.holds[0];
            int fewest = graph.build(rules.everyLaw(), hold, MOST_LOAD);
            int least = fewest >= 0 ? 0 : MOST_LOAD;
            int greatest = MOST_LOAD;
            load = fewest;
            for (int i = 0; i <= MOST_LOAD && least < greatest && load != SPENT; i++) {
                int middle = (least + greatest) / 2;
                fewest = graph.build(rules.everyLaw(), hold, middle);
                if (fewest == SPENT) {
                    load = SPENT;
                } else if (fewest == NONE) {
                    least = middle + 1;
                } else {
                    greatest = middle;
                }
            }
            if (load >= 0) {
                load = least;
            }
            return load;
        }
    }

    /** Two boats that may cross at once, between two shores: a state is the things (8 bits) and boats at shore 1. */
    private static final class Rounds {
        private static final int STATES = 1024;
        private static final int MOST_HELD_HERE = 3;

        int answer = UNKNOWN;
        private final Rules rules;
        private Model model;
        private final int[] depths = new int[STATES];
        private final int[] queue = new int[STATES];
        private int queued = 0;
        private int now = 0;
        private final int[] firstLoads = new int[SETS];
        private final int[] secondLoads = new int[SETS];
        private int firstCount = 0;
        private int secondCount = 0;

        Rounds(Rules of) {
            rules = of;
            model = of.model;
        }

        int fewestRounds() {
            if (answer != UNKNOWN) {
                return answer;
            }
            model = rules.model;
            answer = SPENT;
            if (isAsTold()) {
                answer = NONE;
                begin();
            }
            boolean barred = rules.barringAshore(model.start()) != 0;
            for (int i = 0; i < queued && i < STATES && answer == NONE; i++) {
                now = queue[i];
                if ((now & 255) == model.all()) {
                    answer = depths[now & STATES - 1];
                } else if (!barred) {
                    addRounds();
                }
            }
            return answer;
        }

        private boolean isAsTold() {
            return model.shores == 2 && model.boats == 2 && model.lamp == NONE
                    && model.holds[0] <= MOST_HELD_HERE && model.holds[1] <= MOST_HELD_HERE;
        }

        private void begin() {
            Arrays.fill(depths, NONE);
            queued = 0;
            firstCount = listLoads(0, firstLoads);
            secondCount = listLoads(1, secondLoads);
            addState(model.berths[0] << 8 | model.berths[1] << 9, 0);
        }

        /** What a boat may have aboard, wherever it is; the set 0, ahead of all, stands for a boat that stays. */
        private int listLoads(int boat, int[] loads) {
            int listed = 1;
            loads[0] = 0;
            for (int set = 1; set <= model.all() && listed < loads.length; set++) {
                if (rules.fits(set, model.holds[boat], model.loads[boat])
                        && rules.barring(set, model.shores, 1, 0) == 0) {
                    loads[listed] = set;
                    listed++;
                }
            }
            return listed;
        }

        private void addState(int state, int depth) {
            if (state >= 0 && state < STATES && depths[state] == NONE && queued < STATES) {
                depths[state] = depth;
                queue[queued] = state;
                queued++;
            }
        }

        /** The things that a boat could take where it is. */
        private int withinReach(int boat) {
            int from = now >> (8 + boat) & 1;
            if (!model.flows(from, 1 - from)) {
                return 0;
            }
            return from == 0 ? model.all() & ~now : model.all() & now;
        }

        private void addRounds() {
            int firstReach = withinReach(0);
            int secondReach = withinReach(1);
            for (int i = 0; i < firstCount && i < SETS; i++) {
                int first = firstLoads[i];
                if ((first & ~firstReach) == 0) {
                    for (int k = 0; k < secondCount && k < SETS; k++) {
                        int second = secondLoads[k];
                        if ((second & ~secondReach) == 0 && (second & first) == 0) {
                            addRound(first, second);
                        }
                    }
                }
            }
        }

        private void addRound(int first, int second) {
            int gone = first | second;
            int staying = (first == 0 ? 1 : 0) | (second == 0 ? 2 : 0);
            if (staying == 3 || barredAshore(now, model.all() & ~gone, staying)) {
                return;
            }
            int after = now ^ gone ^ (3 & ~staying) << 8;
            if (!barredAshore(after, model.all(), 3)) {
                addState(after, depths[now & STATES - 1] + 1);
            }
        }

        /** here: the things that are ashore at all; lying: the boats (bits) that are. */
        private boolean barredAshore(int state, int here, int lying) {
            int one = state & here;
            int boatsOne = Integer.bitCount(state >> 8 & lying);
            int boatsZero = Integer.bitCount(lying) - boatsOne;
            return rules.barring(here & ~one, 0, boatsZero, 0) != 0 || rules.barring(one, 1, boatsOne, 0) != 0;
        }
    }

    /** Crossings made by hand. */
    private static final class Play {
        private static final int MOST_MADE = 60;

        int made = 0;
        int barringLaw = NONE;
        private final Rules rules;
        private Model model;
        private final int[] states = new int[MOST_MADE + 1];
        private final int[] minutes = new int[MOST_MADE + 1];

        Play(Rules of) {
            rules = of;
            model = of.model;
        }

        /** What barred a crossing ahead of this was a law of another text: none of this play has been tried yet. */
        void begin() {
            model = rules.model;
            made = 0;
            barringLaw = NONE;
            states[0] = model.start();
        }

        int state() {
            return made >= 0 && made <= MOST_MADE ? states[made] : 0;
        }

        int minutesSoFar() {
            return made >= 0 && made <= MOST_MADE ? minutes[made] : 0;
        }

        int tryCrossing(int boat, int to, int set) {
            barringLaw = NONE;
            if (made < 0 || made >= MOST_MADE) {
                return 9;
            }
            int barred = judge(boat, to, set);
            if (barred == 0) {
                barred = judgeByLaws(boat, to, set);
            }
            if (barred == 0) {
                states[made + 1] = model.after(state(), boat, to, set);
                minutes[made + 1] = minutesSoFar() + rules.minutesOf(set);
                made++;
            }
            return barred;
        }

        /** What bars a crossing ahead of all laws: 1 to 6, or 0. */
        private int judge(int boat, int to, int set) {
            if (boat < 0 || boat >= model.boats || boat >= MOST_BOATS || to < 0 || to >= model.shores) {
                return 1;
            }
            int from = Layout.berth(state(), boat);
            if (!model.flows(from, to)) {
                return 1;
            }
            if ((set & ~Layout.ashore(state(), from, model.all())) != 0) {
                return 2;
            }
            if (rules.rowersOf(set) == 0) {
                return 3;
            }
            if (rules.manyOf(set) > model.holds[boat]) {
                return 4;
            }
            if (rules.weightOf(set) > model.loads[boat]) {
                return 5;
            }
            if (model.lamp != NONE && Layout.lampShore(state()) != from) {
                return 6;
            }
            return 0;
        }

        private int judgeByLaws(int boat, int to, int set) {
            int laws = rules.barringAshore(model.start());
            if (laws == 0) {
                laws = rules.barringOnWater(state(), boat, set);
            }
            if (laws != 0) {
                barringLaw = Integer.numberOfTrailingZeros(laws);
                return 7;
            }
            laws = rules.barringAshore(model.after(state(), boat, to, set));
            if (laws != 0) {
                barringLaw = Integer.numberOfTrailingZeros(laws);
                return 8;
            }
            return 0;
        }
    }
}
