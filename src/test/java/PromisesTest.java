/** Each promise of DOC.md by its number: ordinary inputs, the edges that it names, wrong inputs. */
public final class PromisesTest {
    private static final String WOLF = "thing m weight 9 rows 2;thing w weight 3;thing g weight 2;thing c weight 1;"
            + "boat holds 2 load 20 at 0;never w and g and not m ashore;never g and c and not m ashore;";
    private static final String BRIDGE = "thing a weight 1 rows 1;thing b weight 1 rows 2;thing c weight 1 rows 5;"
            + "thing d weight 1 rows 10;boat holds 2 load 99 at 0;lamp at 0;";
    private static final String FOUR = "thing a weight 1 rows 1;thing b weight 1 rows 1;thing c weight 1 rows 1;"
            + "thing d weight 1 rows 1;";
    private static final String EIGHT = "thing a weight 1 rows 1;thing b weight 1 rows 1;thing c weight 1 rows 1;"
            + "thing d weight 1 rows 1;thing e weight 1 rows 1;thing f weight 1 rows 1;thing g weight 1 rows 1;"
            + "thing h weight 1 rows 1;";
    private static final String ONE = "thing a weight 1 rows 1;boat holds 1 load 9 at 0;";

    public static void main(String[] args) {
        newObject();
        feed();
        text();
        faultsOfTokens();
        faultsOfWords();
        faultsOfNumbers();
        faultsOfTooMuch();
        faultsOfNames();
        expressions();
        counts();
        things();
        boats();
        waters();
        bars();
        safe();
        reached();
        fewest();
        quickest();
        ways();
        way();
        where();
        rides();
        laws();
        size();
        rounds();
        roundsOnTheWater();
        alike();
        cross();
        law();
        lawBehindText();
        back();
        play();
        hint();
        spent();
        spentEdges();
        Told.end();
    }

    private static void newObject() {
        FerryHall x = new FerryHall();
        int[] counts = {2, 0, 0, 0, 0, 0, 0};
        for (int what = 0; what < 7; what++) {
            Told.due("1: count(" + what + ")", x.count(what), counts[what]);
        }
        Told.due("1: NONE", FerryHall.NONE, -1);
        Told.due("1: fault", x.fault(), -1);
        Told.due("1: law", x.law(), -1);
        Told.due("1: water", x.water(0, 1) && x.water(1, 0) && !x.water(1, 1) ? 1 : 0, 1);
        Told.none("1: way", () -> x.way(-1, 0));
        Told.due("1: play(1)", x.play(1), 1);
        Told.due("1: fewest", x.fewest(), 0);
    }

    private static void feed() {
        FerryHall x = new FerryHall();
        Told.due("2: feed", x.feed(0x7468696e, 0x67206120, 0x77656967, 0x68742037, 0x3b202020), 20);
        Told.due("2: text", x.text(17), 0);
        Told.due("2: letter", x.thing(0, 2), 'a');
        Told.due("2: weight", x.thing(0, 0), 7);
        for (int i = 1; i <= 35; i++) {
            Told.due("2: feed " + i, x.feed(-1, 0, 1, 2, 3), 20 * i);
        }
        Told.due("2: feed of a full tape", x.feed(0, 0, 0, 0, 0), -1);
        Told.due("2: bytes", x.count(6), 700);
        Told.due("2: text of 0", x.text(0), 0);
        Told.due("2: feed behind", x.feed(0, 0, 0, 0, 0), 20);
    }

    private static void text() {
        FerryHall x = Told.hall(WOLF);
        x.fewest();
        x.cross(0, 1, 5);
        Told.feed(x, "thing a weight 1;");
        Told.illegal("3: text(-1)", () -> x.text(-1));
        Told.illegal("3: text(21)", () -> x.text(21));
        Told.illegal("3: text(least)", () -> x.text(Integer.MIN_VALUE));
        Told.illegal("3: text(most)", () -> x.text(Integer.MAX_VALUE));
        Told.due("3: the tape stays", x.count(6), 20);
        Told.due("3: fault", x.text(5), 1);
        Told.due("3: place", x.fault(), 5);
        Told.due("3: the tape is empty", x.count(6), 0);
        Told.due("3: things stay", x.count(1), 4);
        Told.due("3: the play stays", x.count(5), 1);
        Told.due("3: the way stays", x.way(-1, 0), 7);
        Told.illegal("3: text(1)", () -> x.text(1));
        Told.due("4: the place stays", x.fault(), 5);
        Told.due("3: the empty text", x.text(0), 0);
        Told.due("4: no place", x.fault(), -1);
        Told.due("3: nothing", x.count(1) + x.count(2) + x.count(3) + x.count(4) + x.count(5), 0);
        Told.due("3: two shores", x.count(0), 2);
        Told.none("3: no way is kept", () -> x.way(-1, 0));
        Told.due("3: blanks", Told.tell(x, "  \n shores\n3 ;\n\n"), 0);
        Told.due("3: three shores", x.count(0), 3);
        Told.due("3: 700 bytes", Told.tell(x, ONE + " ".repeat(700 - ONE.length())), 0);
        Told.due("3: one thing", x.count(1), 1);
    }

    private static void faultsOfTokens() {
        Told.fault("shores", 1, 6);
        Told.fault("shores   ", 1, 9);
        Told.fault("shores 3", 1, 8);
        Told.fault("shores ;", 1, 7);
        Told.fault("shores 3;shores 3;", 1, 9);
        Told.fault("lamp at 0;shores 3;", 1, 10);
        Told.fault("thin a weight 1;", 1, 0);
        Told.fault("thing a weight 1", 1, 16);
        Told.fault("thing a weight 1;;", 1, 17);
        Told.fault("thing a1 weight 1;", 1, 7);
        Told.fault("thing A weight 1;", 1, 6);
        Told.fault("thing a\tweight 1;", 1, 7);
        Told.fault("thing a weight 1 row 1;", 1, 17);
        Told.fault("thing a rows 1;", 1, 8);
        Told.fault("thing a weight x;", 1, 15);
        Told.fault("boat load 1;", 1, 5);
        Told.fault("boat holds 1 load 1;", 1, 19);
        Told.fault("lamp 0;", 1, 5);
        Told.fault("never 1 ashore aboard;", 1, 15);
        Told.fault("never 1 2000;", 1, 8);
        Told.fault("never 1<2<3;", 1, 9);
        Told.fault("never 1=2<3;", 1, 9);
        Told.fault("never -1;", 1, 6);
        Told.fault("never (1;", 1, 8);
        Told.fault("never 1);", 1, 7);
        Told.fault("never ();", 1, 7);
        Told.fault("never 1 +;", 1, 9);
        Told.fault("never 1 > 2;", 1, 8);
        Told.fault("never 1" + (char) 200, 1, 7);
        Told.fault("never 1 not 1;", 1, 8);
        Told.fault("never 1 at ashore;", 1, 11);
        Told.fault("Thing a weight 1;", 1, 0);
        Told.fault("" + (char) 0, 1, 0);
    }

    /** A word is none, if any letter of it is another one, or one is missing, or one too much. */
    private static void faultsOfWords() {
        String text = "shores 3;thing a weight 1 rows 1;boat holds 1 load 1 at 0;water 0 1;way 1 2;lamp at 0;"
                + "never not a and many or weight ashore;never rowers+boats+lamp+shore aboard;never 1 at 0;";
        Told.fault(text, 0, -1);
        java.util.regex.Matcher word = java.util.regex.Pattern.compile("[a-z]{2,}").matcher(text);
        while (word.find()) {
            for (int at = word.start(); at <= word.end(); at++) {
                spoilt(text.substring(0, at) + "z" + text.substring(at), word.start());
                if (at < word.end()) {
                    spoilt(text.substring(0, at) + "z" + text.substring(at + 1), word.start());
                    if (!word.group().equals("boats") || at != word.end() - 1) {
                        spoilt(text.substring(0, at) + text.substring(at + 1), word.start());
                    }
                }
            }
        }
    }

    private static void spoilt(String text, int place) {
        FerryHall x = new FerryHall();
        int fault = Told.tell(x, text);
        Told.due("a fault of: " + text, fault == 1 || fault == 3 || fault == 4 ? 1 : 0, 1);
        Told.due("4: fault of: " + text, x.fault(), place);
    }

    private static void faultsOfNumbers() {
        Told.fault("shores 1;", 2, 7);
        Told.fault("shores 5;", 2, 7);
        Told.fault("shores 0003;", 2, 7);
        Told.fault("shores 003;", 0, -1);
        Told.fault("thing a weight 100;", 2, 15);
        Told.fault("thing a weight 99 rows 100;", 2, 23);
        Told.fault("thing a weight 99 rows 0;", 2, 23);
        Told.fault("thing a weight 0 rows 99;", 0, -1);
        Told.fault("boat holds 0 load 1 at 0;", 2, 11);
        Told.fault("boat holds 9 load 1 at 0;", 2, 11);
        Told.fault("boat holds 8 load 999 at 1;", 0, -1);
        Told.fault("boat holds 8 load 1000 at 1;", 2, 18);
        Told.fault("boat holds 8 load 0 at 2;", 4, 23);
        Told.fault("boat holds 8 load 0 at 0000;", 2, 23);
        Told.fault("lamp at 2;", 4, 8);
        Told.fault("lamp at 002;", 4, 8);
        Told.fault("lamp at 999;", 4, 8);
        Told.fault("lamp at 001;", 0, -1);
        Told.fault("shores 4;lamp at 3;", 0, -1);
        Told.fault("shores 4;lamp at 4;", 4, 17);
        Told.fault("shores 3;water 2 3;", 4, 17);
        Told.fault("shores 3;water 3 3;", 4, 15);
        Told.fault("shores 3;way 2 2;", 5, 15);
        Told.fault("water 1 01;", 5, 8);
        Told.fault("water 2 2;", 4, 6);
        Told.fault("never 1000;", 2, 6);
        Told.fault("never 999;", 0, -1);
        Told.fault("never 1 at 2;", 4, 11);
        Told.fault("never 1 at 1234;", 2, 11);
    }

    private static void faultsOfTooMuch() {
        Told.fault(EIGHT, 0, -1);
        Told.fault(EIGHT + "thing;", 2, EIGHT.length());
        String boat = "boat holds 1 load 1 at 0;";
        Told.fault(boat + boat, 0, -1);
        Told.fault(boat + boat + "boat", 2, 2 * boat.length());
        String twelve = "never 1;".repeat(12);
        Told.fault(twelve, 0, -1);
        Told.fault(twelve + "\n never foo;", 2, twelve.length() + 2);
        Told.fault("never (((((1)))));", 0, -1);
        Told.fault("never ((((((1))))));", 2, 12);
        Told.fault("never ((((((foo))))));", 2, 12);
        Told.fault("never ((((((a))))));", 2, 12);
        Told.fault("never ((((((not 1))))));", 2, 12);
        Told.fault("never (((((((1)))))));", 2, 12);
        Told.fault("never (((((()", 1, 12);
        Told.fault("never ((((((", 1, 12);
        Told.fault("never ((((((+", 1, 12);
        Told.fault("never ((((((?", 1, 12);
        Told.fault("never (((((1)))))+(((((1)))));", 0, -1);
        Told.fault("never not not not not not not 1;", 0, -1);
        Told.fault("never not not not not not not not 1;", 2, 30);
        Told.fault("never not not not not not not (not 1);", 0, -1);
        Told.fault("never not not not not not not 1 and not 1;", 0, -1);
        Told.fault("never foo;", 3, 6);
        Told.fault("never and;", 3, 6);
        Told.fault("never ashore;", 3, 6);
        Told.fault("never 1+not 1;", 3, 8);
        Told.fault("never 1<not 1;", 3, 8);
        Told.fault("never 1 and or 1;", 3, 12);
        Told.fault("never (boat);", 3, 7);
        Told.fault("never manys;", 3, 6);
    }

    private static void faultsOfNames() {
        Told.fault("never a;thing a weight 1;", 4, 6);
        Told.fault("thing a weight 1;never a;", 0, -1);
        Told.fault("thing a weight 1;never b;", 4, 23);
        Told.fault("thing a weight 1;thing a weight 100;", 5, 23);
        Told.fault("lamp at 1;lamp at 1;", 5, 10);
        Told.fault("lamp at 1;lamp;", 5, 10);
        Told.fault("water 0 1;water 0 1;way 1 0;", 0, -1);
    }

    private static void expressions() {
        String[] held = {"1", "999", "a", "not c", "many=2", "weight=11", "rowers=1", "boats=2", "lamp=1", "shore=1",
            "1+2*3=7", "(1+2)*3=9", "10-3-2=5", "20/3/2=3", "7/2*2=6", "(0-7)/2=0-3", "5/0=0", "5/0*0=0", "2-3", "0-1<0",
            "1 or 0 and 0", "not 0=1 and 1", "not (0 or 0)", "(5 or 7)=1", "(5 and 7)=1", "(5)=5", "not not 5=5", "not 1<1",
            "(2<3)+(3=3)=2", "999*999*999*999<0", "a+b+c=2", "a*weight=11", "(not 5)=0", "(not not 5)=1", "1 or c",
            "0-0=0", "999*999*999/999/999=999", "3/2*2=2", "0<(0-999)*999*999*3"};
        for (String e : held) {
            Told.holds(e, true);
        }
        String[] not = {"0", "c", "not a", "1<1", "2=3", "a and c", "0 or c", "1-1", "many<2", "5/9", "not 5", "a*c",
            "not not 0", "not not 5=1", "0/5", "weight<11"};
        for (String e : not) {
            Told.holds(e, false);
        }
    }

    private static void counts() {
        FerryHall x = Told.hall("shores 4;" + BRIDGE + "never a;never b aboard;");
        int[] counts = {4, 4, 1, 2, 1, 0, 0};
        for (int what = 0; what < 7; what++) {
            Told.due("5: count(" + what + ")", x.count(what), counts[what]);
        }
        for (int what : new int[] {-1, 7, Integer.MAX_VALUE, Integer.MIN_VALUE}) {
            Told.none("5: count(" + what + ")", () -> x.count(what));
        }
    }

    private static void things() {
        FerryHall x = Told.hall("thing z weight 99 rows 99;thing a weight 0;");
        int[] due = {99, 99, 122, 0, 0, 97};
        for (int i = 0; i < 6; i++) {
            Told.due("6: thing " + i, x.thing(i / 3, i % 3), due[i]);
        }
        for (int i : new int[] {-1, 2, 8, Integer.MAX_VALUE, Integer.MIN_VALUE}) {
            Told.none("6: thing(" + i + ", 0)", () -> x.thing(i, 0));
        }
        for (int what : new int[] {-1, 3}) {
            Told.none("6: thing(0, " + what + ")", () -> x.thing(0, what));
        }
    }

    private static void boats() {
        FerryHall x = Told.hall("shores 3;boat holds 8 load 999 at 2;boat holds 1 load 0 at 1;");
        int[] due = {8, 999, 2, 1, 0, 1};
        for (int i = 0; i < 6; i++) {
            Told.due("7: boat " + i, x.boat(i / 3, i % 3), due[i]);
        }
        for (int i : new int[] {-1, 2, Integer.MAX_VALUE, Integer.MIN_VALUE}) {
            Told.none("7: boat(" + i + ", 0)", () -> x.boat(i, 0));
        }
        for (int what : new int[] {-1, 3}) {
            Told.none("7: boat(0, " + what + ")", () -> x.boat(0, what));
        }
    }

    private static void water(FerryHall x, String due) {
        int shores = x.count(0);
        StringBuilder got = new StringBuilder();
        for (int from = 0; from < shores; from++) {
            for (int to = 0; to < shores; to++) {
                got.append(x.water(from, to) ? '1' : '0');
            }
            got.append(' ');
        }
        Told.due("8: water " + got + "for " + due, got.toString().trim().equals(due) ? 1 : 0, 1);
    }

    private static void waters() {
        water(Told.hall("shores 4;"), "0111 1011 1101 1110");
        water(Told.hall("shores 3;water 0 1;way 2 0;"), "010 100 100");
        water(Told.hall("way 1 0;"), "00 10");
        FerryHall x = Told.hall("shores 3;way 0 2;");
        water(x, "001 000 000");
        Told.none("8: water(3, 0)", () -> x.water(3, 0) ? 1 : 0);
        Told.none("8: water(0, 3)", () -> x.water(0, 3) ? 1 : 0);
        Told.none("8: water(-1, 0)", () -> x.water(-1, 0) ? 1 : 0);
        Told.none("8: water(0, -1)", () -> x.water(0, -1) ? 1 : 0);
    }

    private static void bars() {
        FerryHall x = Told.hall("shores 3;thing a weight 1;thing b weight 2;never a;never a ashore;never a aboard;"
                + "never a at 1;never a and boats=1;never a and lamp;never a and shore=3;never many=0;never not b;");
        Told.due("9: at 0", x.bars(1, 0, 0, false), 1 | 2 | 256);
        Told.due("9: at 1", x.bars(1, 1, 0, false), 1 | 2 | 8 | 256);
        Told.due("9: a boat", x.bars(3, 2, 1, false), 1 | 2 | 16);
        Told.due("9: the lamp", x.bars(3, 2, 2, true), 1 | 2 | 32);
        Told.due("9: aboard", x.bars(3, 3, 0, false), 1 | 4 | 16 | 64);
        Told.due("9: aboard, two", x.bars(3, 3, 2, true), 1 | 4 | 16 | 32 | 64);
        Told.due("9: nobody", x.bars(0, 0, 0, false), 0);
        Told.due("9: others", x.bars(-4, 0, 0, false), 0);
        Told.due("9: others too", x.bars(-1, 0, 0, false), 3);
        Told.none("9: shore 4", () -> x.bars(1, 4, 0, false));
        Told.none("9: shore -1", () -> x.bars(1, -1, 0, false));
        Told.none("9: boats 3", () -> x.bars(1, 0, 3, false));
        Told.none("9: boats -1", () -> x.bars(1, 0, -1, false));
        Told.none("9: boats 3, aboard", () -> x.bars(1, 3, 3, false));
    }

    private static void safe() {
        FerryHall x = Told.hall(WOLF);
        Told.due("10: ashore", x.safe(1, 2, true), 12);
        Told.due("10: aboard", x.safe(2, 2, true), 15);
        FerryHall y = Told.hall(FOUR + "never many=2 and boats=1;never many=3 and lamp;");
        Told.due("10: no boat", y.safe(0, 0, false), 15);
        Told.due("10: a boat", y.safe(0, 1, false), 9);
        Told.due("10: the lamp", y.safe(0, 0, true), 11);
        Told.due("10: aboard", y.safe(2, 0, true), 5);
        Told.due("10: nothing", new FerryHall().safe(2, 0, true), 0);
        Told.none("10: shore 3", () -> x.safe(3, 0, false));
        Told.none("10: shore -1", () -> x.safe(-1, 0, false));
        Told.none("10: boats 3", () -> x.safe(0, 3, false));
        Told.none("10: boats -1", () -> x.safe(2, -1, false));
    }

    private static void reached(String text, int... due) {
        FerryHall x = Told.hall(text);
        for (int what = 0; what < 4; what++) {
            Told.due("11: reached(" + what + ") of " + text, x.reached(what), due[what]);
        }
        Told.none("11: reached(-1)", () -> x.reached(-1));
        Told.none("11: reached(4)", () -> x.reached(4));
    }

    private static void reached() {
        reached("", 1, 0, 0, 0);
        reached(WOLF, 10, 20, 0, 7);
        reached(ONE, 2, 2, 0, 1);
        reached(ONE + "way 0 1;", 2, 1, 0, 1);
        reached("shores 3;" + ONE + "way 0 1;way 0 2;", 3, 2, 1, 1);
        reached("shores 3;" + ONE + "water 0 1;", 2, 2, 2, 1);
        reached(ONE + "never a at 0;", 1, 0, 1, 0);
        reached(ONE + "boat holds 1 load 9 at 1;", 3, 4, 0, 2);
    }

    private static void fewest() {
        FerryHall x = Told.hall(WOLF);
        Told.due("12: fewest", x.fewest(), 7);
        int[] sets = {5, 1, 3, 5, 9, 1, 5};
        for (int i = 0; i < 7; i++) {
            Told.due("12: set " + i, x.way(i, 2), sets[i]);
            Told.due("12: shore " + i, x.way(i, 1), 1 - i % 2);
        }
        Told.due("12: none", Told.hall("thing a weight 1;boat holds 1 load 1 at 0;").fewest(), -1);
        Told.due("12: no boat", Told.hall("thing a weight 1 rows 1;").fewest(), -1);
        Told.due("12: no thing", Told.hall("boat holds 1 load 1 at 0;never 1;").fewest(), 0);
        FerryHall two = Told.hall("shores 3;" + ONE + "boat holds 1 load 9 at 0;");
        Told.due("12: straight", two.fewest(), 1);
        Told.due("12: the first boat", two.way(0, 0), 0);
        Told.due("12: the last shore", two.way(0, 1), 2);
    }

    private static void quickest() {
        FerryHall x = Told.hall(BRIDGE);
        Told.due("13: quickest", x.quickest(), 17);
        int[] sets = {3, 1, 12, 2, 3};
        for (int i = 0; i < 5; i++) {
            Told.due("13: set " + i, x.way(i, 2), sets[i]);
        }
        Told.due("13: fewest then", x.fewest(), 5);
        Told.due("13: another way", x.way(-1, 3), 2 + 1 + 5 + 1 + 10);
        Told.due("13: none", Told.hall("thing a weight 1;").quickest(), -1);
        Told.due("13: nothing", new FerryHall().quickest(), 0);
        FerryHall y = Told.hall("thing a weight 1 rows 1;thing b weight 1 rows 1;thing c weight 9 rows 90;"
                + "boat holds 2 load 10 at 0;boat holds 1 load 9 at 0;");
        Told.due("13: minutes", y.quickest(), 91);
        Told.due("13: crossings", y.way(-1, 0), 2);
        Told.due("13: the first row", y.way(0, 2), 3);
        // five crossings by those who row quickly would take nine minutes too
        FerryHall z = Told.hall("thing d weight 1 rows 3;thing b weight 1;thing m weight 1 rows 1;thing p weight 1;"
                + "thing j weight 1 rows 5;boat holds 3 load 999 at 0;never 2<many and rowers=1 ashore;");
        Told.due("13: of like minutes", z.quickest(), 9);
        Told.due("13: the fewest crossings", z.way(-1, 0), 3);
        Told.due("13: the first of them", z.way(0, 2) * 10000 + z.way(1, 2) * 100 + z.way(2, 2), 70428);
    }

    private static void ways() {
        Told.due("14: wolf", Told.hall(WOLF).ways(), 2);
        Told.due("14: bridge", Told.hall(BRIDGE).ways(), 108);
        Told.due("14: none", Told.hall("thing a weight 1 rows 1;").ways(), 0);
        Told.due("14: nothing", new FerryHall().ways(), 1);
        Told.due("14: many", Told.hall(EIGHT + "boat holds 2 load 99 at 0;").ways(), 1000000000);
        FerryHall x = new FerryHall();
        x.ways();
        Told.none("14: no way is kept", () -> x.way(-1, 0));
    }

    private static void way() {
        FerryHall x = Told.hall(BRIDGE);
        Told.none("15: none kept", () -> x.way(-1, 0));
        Told.none("15: none kept", () -> x.way(0, 0));
        x.quickest();
        Told.due("15: how many", x.way(-1, 0), 5);
        Told.due("15: minutes", x.way(-1, 3), 17);
        Told.due("15: boat", x.way(2, 0), 0);
        Told.due("15: shore", x.way(2, 1), 1);
        Told.due("15: set", x.way(2, 2), 12);
        Told.due("15: minutes", x.way(2, 3), 10);
        for (int i : new int[] {-2, 5, 2000, Integer.MAX_VALUE, Integer.MIN_VALUE}) {
            Told.none("15: way(" + i + ", 0)", () -> x.way(i, 0));
        }
        for (int what : new int[] {-1, 4}) {
            Told.none("15: way(0, " + what + ")", () -> x.way(0, what));
            Told.none("15: way(-1, " + what + ")", () -> x.way(-1, what));
        }
        Told.none("15: way(-1, 1)", () -> x.way(-1, 1));
        Told.none("15: way(-1, 2)", () -> x.way(-1, 2));
        Told.tell(x, "bad");
        Told.due("15: kept", x.way(-1, 0), 5);
        Told.tell(x, BRIDGE);
        Told.none("15: a new text", () -> x.way(-1, 0));
    }

    private static void where() {
        FerryHall x = Told.hall(WOLF);
        Told.none("16: none kept", () -> x.where(0, 0));
        x.fewest();
        int[] goat = {0, 1, 1, 1, 0, 0, 0, 1};
        for (int i = 0; i < 8; i++) {
            Told.due("16: behind " + i, x.where(i, 2), goat[i]);
        }
        Told.none("16: where(8, 2)", () -> x.where(8, 2));
        Told.none("16: where(-1, 2)", () -> x.where(-1, 2));
        Told.none("16: where(0, 4)", () -> x.where(0, 4));
        Told.none("16: where(0, -1)", () -> x.where(0, -1));
    }

    private static void rides() {
        FerryHall x = Told.hall(WOLF);
        Told.none("17: none kept", () -> x.rides(0, 0));
        x.fewest();
        int[] due = {7, 0, 1, 1, 3, 2, 1, 1};
        for (int i = 0; i < 8; i++) {
            Told.due("17: rides " + i, x.rides(i / 2, i % 2), due[i]);
        }
        Told.none("17: rides(4, 0)", () -> x.rides(4, 0));
        Told.none("17: rides(-1, 0)", () -> x.rides(-1, 0));
        Told.none("17: rides(0, 2)", () -> x.rides(0, 2));
        Told.none("17: rides(0, -1)", () -> x.rides(0, -1));
        FerryHall y = Told.hall(ONE);
        y.fewest();
        Told.due("17: alone", y.rides(0, 1), 1);
    }

    private static void laws(String text, int free, int alone) {
        FerryHall x = Told.hall(text);
        Told.due("18: free of " + text, x.laws(0), free);
        Told.due("18: alone of " + text, x.laws(1), alone);
        Told.due("18: reached behind it", x.reached(0), Told.hall(text).reached(0));
    }

    private static void laws() {
        laws("", 0, 0);
        laws(WOLF, 0, 0);
        laws(ONE + "never a at 1;never weight=5;", 2, 1);
        laws(ONE + "never a at 1;never a aboard;", 3, 0);
        laws(ONE + "never a at 0;never many=2;", 2, 1);
        laws(ONE + "never many=2;never 0;never boats=2;", 7, 0);
        laws("thing a weight 1;never a at 1;", 1, 0);
        FerryHall x = Told.hall(WOLF);
        Told.none("18: laws(2)", () -> x.laws(2));
        Told.none("18: laws(-1)", () -> x.laws(-1));
    }

    private static void size() {
        FerryHall x = Told.hall(WOLF);
        Told.due("19: held", x.size(0), 2);
        Told.due("19: load", x.size(1), 12);
        Told.due("19: the boat stays", x.boat(0, 0) * 100 + x.boat(0, 1), 220);
        Told.due("19: fewest behind it", x.fewest(), 7);
        Told.none("19: size(2)", () -> x.size(2));
        Told.none("19: size(-1)", () -> x.size(-1));
        Told.none("19: no boat", () -> Told.hall("thing a weight 1 rows 1;").size(0));
        FerryHall y = Told.hall("thing a weight 1;boat holds 8 load 999 at 0;");
        Told.due("19: none", y.size(0) * 10 + y.size(1), -11);
        FerryHall z = Told.hall("thing a weight 0 rows 1;boat holds 8 load 999 at 0;");
        Told.due("19: the least", z.size(0) * 1000 + z.size(1), 1000);
        FerryHall e = Told.hall(EIGHT + "boat holds 1 load 999 at 0;never many<8;");
        Told.due("19: all at once", e.size(0), 8);
        Told.due("19: none of load", e.size(1), -1);
        FerryHall f = Told.hall(EIGHT + "boat holds 8 load 7 at 0;never many<8;");
        Told.due("19: too heavy to hold", f.size(0), -1);
        Told.due("19: load of all", f.size(1), 8);
    }

    private static void rounds(String text, int due) {
        Told.due("20: rounds of " + text, Told.hall(text).rounds(), due);
    }

    private static void rounds() {
        String two = "boat holds 2 load 99 at 0;boat holds 2 load 99 at 0;";
        rounds(FOUR + two, 1);
        rounds(FOUR + two + "lamp at 0;", -2);
        rounds("shores 3;" + FOUR + two, -2);
        rounds(FOUR + "boat holds 2 load 99 at 0;", -2);
        rounds(FOUR + "boat holds 2 load 99 at 0;boat holds 4 load 99 at 0;", -2);
        rounds(FOUR + "boat holds 4 load 99 at 0;boat holds 2 load 99 at 0;", -2);
        rounds(two, 0);
        rounds(FOUR + two + "way 1 0;", -1);
        rounds(FOUR + two + "never a at 0;", -1);
        rounds(FOUR + two + "never many=4 and boats=2 at 1;", 4);
        rounds(FOUR + two + "never 0<many and boats=0 ashore;", 1);
        // with one left on the shore while both are on the water no boat lies there
        rounds(FOUR + "thing e weight 1 rows 1;" + two, 3);
        rounds(FOUR + "thing e weight 1 rows 1;" + two + "never 0<many and boats=0 at 0;", 3);
        rounds("thing a weight 1 rows 1;thing b weight 1 rows 1;boat holds 1 load 9 at 0;boat holds 1 load 9 at 0;"
                + "never many=1 ashore;", 1);
        rounds("thing a weight 1 rows 1;thing b weight 1 rows 1;boat holds 1 load 9 at 0;boat holds 1 load 9 at 0;"
                + "never many=1 at 1;never many=1 at 0;", 1);
        rounds("thing a weight 1 rows 1;thing b weight 1 rows 1;boat holds 1 load 9 at 0;boat holds 1 load 9 at 0;"
                + "never a aboard;", -1);
    }

    private static void roundsOnTheWater() {
        String opposite = "thing a weight 1 rows 1;thing b weight 1 rows 1;thing c weight 1;"
                + "boat holds 2 load 9 at 0;boat holds 1 load 9 at 0;";
        rounds(opposite, 1);
        rounds(opposite + "never lamp aboard;never boats=2 aboard;never shore=2 ashore;", 1);
        // the boats pass each other: meanwhile one is left at shore 1, and no boat lies there
        String passing = FOUR + "boat holds 2 load 99 at 0;boat holds 2 load 99 at 0;never many=4 and boats=2 at 1;";
        rounds(passing, 4);
        rounds(passing + "never many=1 and boats=0 at 1;", -1);
        rounds(opposite + "never lamp ashore;never lamp=1;", 1);
        rounds(ONE + "boat holds 1 load 9 at 0;way 1 0;", -1);
        rounds(ONE + "boat holds 1 load 9 at 0;way 0 1;", 1);
        rounds("thing a weight 1 rows 1;thing b weight 1 rows 1;boat holds 1 load 9 at 0;boat holds 1 load 9 at 1;", -1);
    }

    private static void alike() {
        Told.due("21: all", Told.hall(FOUR).alike(2), 15);
        Told.due("21: rows", Told.hall(BRIDGE).alike(1), 2);
        Told.due("21: weighs", Told.hall("thing a weight 1;thing b weight 2;thing c weight 1;").alike(0), 5);
        FerryHall x = Told.hall(FOUR + "never a and c;never boats=2 and lamp and d at 1;");
        Told.due("21: by laws", x.alike(0), 5);
        Told.due("21: by laws", x.alike(1), 2);
        Told.due("21: by laws", x.alike(3), 8);
        Told.due("21: aboard alone", Told.hall(FOUR + "never b aboard;").alike(0), 13);
        Told.none("21: alike(4)", () -> x.alike(4));
        Told.none("21: alike(-1)", () -> x.alike(-1));
    }

    private static void cross() {
        FerryHall x = Told.hall(WOLF);
        int[][] due = {{-1, 1, 1, 1}, {1, 1, 1, 1}, {0, -1, 1, 1}, {0, 2, 1, 1}, {0, 0, 1, 1}, {0, 1, 16, 2}, {0, 1, -1, 2},
            {0, 1, 1 << 31, 2}, {0, 1, 0, 3}, {0, 1, 6, 3}, {0, 1, 7, 4}, {0, 1, 3, 7}, {0, 1, 5, 0}, {0, 0, 2, 2},
            {0, 0, 4, 3}, {0, 0, 1, 0}, {Integer.MIN_VALUE, Integer.MAX_VALUE, 0, 1}};
        for (int[] d : due) {
            Told.due("22: cross " + d[0] + " " + d[1] + " " + d[2], x.cross(d[0], d[1], d[2]), d[3]);
        }
        FerryHall y = Told.hall("thing a weight 5 rows 1;thing b weight 6 rows 1;boat holds 1 load 5 at 0;"
                + "boat holds 1 load 9 at 1;lamp at 1;way 0 1;");
        Told.due("22: load", y.cross(0, 1, 2), 5);
        Told.due("22: held, ahead of load", y.cross(0, 1, 3), 4);
        Told.due("22: lamp", y.cross(0, 1, 1), 6);
        Told.due("22: no water", y.cross(1, 0, 1), 1);
        FerryHall z = Told.hall(ONE + "never a at 1;never a and boats=0 at 0;never a and lamp;");
        Told.due("22: behind", z.cross(0, 1, 1), 8);
        FerryHall sixty = Told.hall(ONE);
        for (int i = 0; i < 60; i++) {
            Told.due("22: made " + i, sixty.cross(0, 1 - i % 2, 1), 0);
        }
        Told.due("22: 60 were made", sixty.cross(0, 1, 1), 9);
        Told.due("22: ahead of all", sixty.cross(7, 7, 7), 9);
        Told.due("22: 60", sixty.count(5), 60);
        FerryHall far = Told.hall("shores 3;" + ONE + "lamp at 0;");
        for (int i = 0; i < 60; i++) {
            far.cross(0, 1 + i % 2, 1);
        }
        Told.due("25: behind 60", far.play(8) * 100 + far.play(4) * 10 + far.play(2), 222);
        Told.due("26: behind 60", far.hint(0), 0);
        Told.due("22: minutes", sixty.play(0), 60);
        sixty.back();
        Told.due("22: again", sixty.cross(0, 0, 1), 0);
        FerryHall barred = Told.hall("thing a weight 1 rows 1;thing b weight 1 rows 1;boat holds 1 load 9 at 0;"
                + "never a aboard;never 1 at 1;never many=2;never 1 at 0;");
        Told.due("22: barred at start", barred.cross(0, 1, 1), 7);
        Told.due("22: by the least law there", barred.law(), 2);
        Told.due("22: less ahead", barred.cross(0, 1, 3), 4);
        Told.due("22: no law", barred.law(), -1);
    }

    private static void law() {
        FerryHall x = Told.hall(WOLF);
        Told.due("23: none yet", x.law(), -1);
        x.cross(0, 1, 3);
        Told.due("23: on the water", x.law(), 1);
        x.cross(0, 1, 1);
        Told.due("23: the least", x.law(), 0);
        x.cross(0, 1, 0);
        Told.due("23: none", x.law(), -1);
        FerryHall y = Told.hall(ONE + "never 1=2;never a and boats=1 at 1;never a at 1;");
        Told.due("23: behind", y.cross(0, 1, 1), 8);
        Told.due("23: the least behind", y.law(), 1);
        FerryHall z = Told.hall(ONE + "thing b weight 1;never b and boats=0;never a aboard;never a at 1;");
        Told.due("23: aboard or ashore", z.cross(0, 1, 1), 7);
        Told.due("23: the least of both", z.law(), 0);
        z.reached(0);
        Told.due("23: stays", z.law(), 0);
        FerryHall lamp = Told.hall(ONE + "lamp at 0;thing b weight 1;never lamp=0 ashore;never lamp aboard;");
        Told.due("23: without the lamp", lamp.cross(0, 1, 1), 7);
        Told.due("23: law", lamp.law(), 0);
        FerryHall lit = Told.hall(ONE + "lamp at 0;never lamp=0;never lamp and shore=1;");
        Told.due("23: the lamp goes along", lit.cross(0, 1, 1), 8);
        Told.due("23: law", lit.law(), 1);
    }

    private static void lawBehindText() {
        String barring = ONE + "never 1=2;never a aboard;";
        FerryHall x = Told.hall(barring);
        Told.due("23: on the water", x.cross(0, 1, 1), 7);
        Told.due("23: of this text", x.law(), 1);
        Told.due("23: nothing is taken back", x.back(), -1);
        Told.due("23: back() leaves it", x.law(), 1);
        Told.due("23: a text with a fault", Told.tell(x, "shores 3;thing"), 1);
        Told.due("23: all stays behind a fault", x.law(), 1);
        Told.illegal("23: no text", () -> x.text(1));
        Told.due("23: nothing changes", x.law(), 1);
        Told.due("23: the same text again", Told.tell(x, barring), 0);
        Told.due("23: a new play", x.law(), -1);
        Told.due("23: barred in it", x.cross(0, 1, 1), 7);
        Told.due("23: law of it", x.law(), 1);
        Told.due("23: the empty text", x.text(0), 0);
        Told.due("23: no laws at all", x.law(), -1);
        FerryHall y = Told.hall(ONE + "never a at 1;");
        Told.due("23: behind it", y.cross(0, 1, 1), 8);
        Told.due("23: told 8", y.law(), 0);
        Told.due("23: another text", Told.tell(y, "shores 3;thing h weight 7;"), 0);
        Told.due("23: none of it", y.law(), -1);
    }

    private static void back() {
        FerryHall x = Told.hall(WOLF);
        Told.due("24: none", x.back(), -1);
        x.cross(0, 1, 5);
        x.cross(0, 0, 1);
        Told.due("24: one left", x.back(), 1);
        Told.due("24: the boat", x.play(4), 1);
        Told.due("24: none left", x.back(), 0);
        Told.due("24: minutes", x.play(0), 0);
        Told.due("24: none", x.back(), -1);
    }

    private static void play() {
        FerryHall x = Told.hall("shores 4;thing a weight 1 rows 7;thing b weight 1 rows 2;thing c weight 1;"
                + "boat holds 3 load 9 at 0;boat holds 1 load 9 at 2;lamp at 0;");
        int[] start = {0, 0, 0, -9, 0, 2, -9, -9, 0, 0, 0};
        for (int what = 0; what < 11; what++) {
            int asked = what;
            if (start[what] == -9) {
                Told.none("25: play " + what, () -> x.play(asked));
            } else {
                Told.due("25: play " + what, x.play(what), start[what]);
            }
        }
        x.cross(0, 3, 6);
        Told.due("25: minutes", x.play(0), 2);
        Told.due("25: lamp", x.play(2), 3);
        Told.due("25: boat", x.play(4), 3);
        Told.due("25: thing", x.play(9), 3);
        Told.due("25: thing", x.play(8), 0);
        x.cross(0, 0, 2);
        x.cross(0, 3, 3);
        Told.due("25: goal", x.play(1), 1);
        Told.due("25: minutes", x.play(0), 11);
        for (int what : new int[] {-1, 3, 6, 7, 11, 15, 16, Integer.MAX_VALUE, Integer.MIN_VALUE}) {
            Told.none("25: play(" + what + ")", () -> x.play(what));
        }
        Told.tell(x, "boat holds 1 load 1 at 1;");
        Told.due("25: no lamp", x.play(2), -1);
        Told.due("25: boat", x.play(4), 1);
        Told.none("25: boat 1", () -> x.play(5));
        Told.none("25: thing 0", () -> x.play(8));
    }

    private static void hint() {
        FerryHall x = Told.hall(WOLF);
        int[] first = {7, 0, 1, 5};
        for (int what = 0; what < 4; what++) {
            Told.due("26: hint " + what, x.hint(what), first[what]);
        }
        for (int left = 6; left >= 0; left--) {
            Told.due("26: made", x.cross(x.hint(1), x.hint(2), x.hint(3)), 0);
            Told.due("26: left", x.hint(0), left);
        }
        Told.due("26: at the goal", x.hint(1) * 100 + x.hint(2) * 10 + x.hint(3), -111);
        Told.none("26: no way is kept", () -> x.way(-1, 0));
        Told.none("26: hint(4)", () -> x.hint(4));
        Told.none("26: hint(-1)", () -> x.hint(-1));
        FerryHall y = Told.hall("shores 3;" + ONE + "way 0 1;way 0 2;");
        Told.due("26: one", y.hint(0), 1);
        y.cross(0, 1, 1);
        for (int what = 0; what < 4; what++) {
            Told.due("26: no way, " + what, y.hint(what), -1);
        }
    }

    private static void spent() {
        FerryHall x = Told.hall("shores 4;" + EIGHT + "boat holds 2 load 99 at 0;never 1=2;");
        for (int what = 0; what < 4; what++) {
            Told.due("11: spent " + what, x.reached(what), -1);
            Told.due("26: spent " + what, x.hint(what), -2);
        }
        Told.none("11: reached(4)", () -> x.reached(4));
        Told.none("26: hint(4)", () -> x.hint(4));
        Told.due("12: spent", x.fewest(), -2);
        Told.due("13: spent", x.quickest(), -2);
        Told.due("14: spent", x.ways(), -2);
        Told.due("18: spent", x.laws(0) * 10 + x.laws(1), -11);
        Told.due("19: spent", x.size(0), -2);
        Told.due("19: spent", x.size(1), -2);
        Told.none("15: none kept", () -> x.way(-1, 0));
        Told.due("22: a crossing", x.cross(0, 3, 3), 0);
        Told.due("26: spent", x.hint(0), -2);
        // spent without the law alone
        FerryHall y = Told.hall("shores 4;" + EIGHT + "boat holds 2 load 99 at 0;never 1 aboard;");
        Told.due("12: barred", y.fewest(), -1);
        Told.due("18: spent without it", y.laws(0) * 10 + y.laws(1), -11);
        // a load of 999 is spent, though the one told is not
        FerryHall z = Told.hall("shores 4;" + EIGHT + "boat holds 2 load 0 at 0;");
        Told.due("12: no load", z.fewest(), -1);
        Told.due("19: spent by 999", z.size(1), -2);
        Told.due("19: none held", z.size(0), -1);
    }

    /** Texts that come just to the bounds of SPENT, and just beyond. */
    private static void spentEdges() {
        String five = "shores 3;" + EIGHT.substring(0, EIGHT.indexOf("thing f")) + "boat holds 2 load 99 at 0;";
        FerryHall x = Told.hall(five + "boat holds 2 load 99 at 0;water 0 1;water 1 2;"
                + "never a*b*c*d and many<6 at 1;never a*d*e and many=4 at 2;");
        Told.due("11: 2000 states", x.reached(0), 2000);
        Told.due("11: crossings", x.reached(1), 14832);
        Told.due("11: farthest", x.reached(3) >= 8 ? 1 : 0, 1);
        Told.due("12: fewest of 2000 states", x.fewest(), 8);
        FerryHall y = Told.hall(five + "boat holds 1 load 99 at 0;water 0 1;water 1 2;never b*d*e and many<5 at 1;");
        Told.due("11: 2001 states", y.reached(0), -1);
        Told.due("12: fewest of 2001 states", y.fewest(), -2);
        String eight = EIGHT.replace("thing a weight 1 rows 1", "thing a weight 1")
                + "boat holds 4 load 99 at 0;boat holds 3 load 99 at 0;";
        FerryHall z = Told.hall(eight + "never a*b*h and many=3 at 0;never b*d*e*g*h and many<7 and boats=0 at 0;");
        Told.due("11: 40,000 crossings", z.reached(1), 40000);
        Told.due("11: states", z.reached(0), 1012);
        Told.due("12: fewest of 40,000 crossings", z.fewest(), 4);
        FerryHall w = Told.hall(eight + "never f and many=1 and boats=0 at 1;");
        Told.due("11: 40,002 crossings", w.reached(1), -1);
        Told.due("14: ways of 40,002 crossings", w.ways(), -2);
    }
}
