/** Promises 1 to 26 of DOC.md: a test for each sentence that names a boundary case, named after its promise. */
public final class EdgesOfPromisesTest {
    private static final String A = "thing a weight 1 rows 1;";
    private static final String B = "thing b weight 1 rows 1;";
    private static final String BOAT = "boat holds 1 load 9 at 0;";
    private static final String ONE = A + BOAT;
    private static final String FOUR = A + B + "thing c weight 1 rows 1;thing d weight 1 rows 1;";
    private static final String EIGHT = FOUR + "thing e weight 1 rows 1;thing f weight 1 rows 1;"
            + "thing g weight 1 rows 1;thing h weight 1 rows 1;";
    private static final String WOLF = "thing m weight 9 rows 2;thing w weight 3;thing g weight 2;thing c weight 1;"
            + "boat holds 2 load 20 at 0;never w and g and not m ashore;never g and c and not m ashore;";
    private static final String SPENT = "shores 4;" + EIGHT + "boat holds 2 load 99 at 0;";
    private static final int MOST = Integer.MAX_VALUE;
    private static final int LEAST = Integer.MIN_VALUE;

    public static void main(String[] args) {
        Told.runEach(EdgesOfPromisesTest.class);
        Told.end();
    }

    // ---- 1

    private static void promise1TwoShoresNothingElse() {
        FerryHall x = new FerryHall();
        int[] counts = {2, 0, 0, 0, 0, 0, 0};
        for (int what = 0; what < 7; what++) {
            Told.due("count(" + what + ")", x.count(what), counts[what]);
        }
        Told.due("water", (x.water(0, 1) ? 1 : 0) + (x.water(1, 0) ? 2 : 0), 3);
        Told.due("fault", x.fault(), -1);
        Told.due("law", x.law(), -1);
        Told.due("back", x.back(), -1);
        Told.due("the lamp", x.play(2), -1);
        Told.due("bars", x.bars(-1, 2, 2, true), 0);
        Told.due("safe", x.safe(0, 0, false), 0);
        Told.none("thing", () -> x.thing(0, 0));
        Told.none("boat", () -> x.boat(0, 0));
        Told.none("way", () -> x.way(-1, 0));
    }

    private static void promise1IsAnsweredAtOnce() {
        Told.due("fewest", new FerryHall().fewest(), 0);
        Told.due("quickest", new FerryHall().quickest(), 0);
        Told.due("ways", new FerryHall().ways(), 1);
        Told.due("hint", new FerryHall().hint(0), 0);
        Told.due("no first crossing", new FerryHall().hint(1), -1);
        Told.due("rounds", new FerryHall().rounds(), -2);
        Told.due("laws", new FerryHall().laws(0), 0);
        Told.due("alone", new FerryHall().laws(1), 0);
        Told.due("reached", new FerryHall().reached(0), 1);
        Told.due("crossings", new FerryHall().reached(1), 0);
        Told.due("cross", new FerryHall().cross(0, 1, 0), 1);
        Told.due("at a goal", new FerryHall().play(1), 1);
        Told.none("size", () -> new FerryHall().size(0));
        Told.none("alike", () -> new FerryHall().alike(0));
    }

    private static void promise1OneObjectIsNotAnother() {
        FerryHall x = Told.hall(ONE);
        FerryHall y = new FerryHall();
        x.cross(0, 1, 1);
        x.fewest();
        Told.due("things of the other", y.count(1), 0);
        Told.due("crossings of the other", y.count(5), 0);
        Told.none("no way is kept there", () -> y.way(-1, 0));
    }

    // ---- 2

    private static void promise2TwentyBytesTheHighestFirst() {
        FerryHall x = new FerryHall();
        Told.due("feed", x.feed(0x6c616d70, 0x20617420, 0x313b0a20, 0x20202020, 0x6e657665), 20);
        Told.due("feed", x.feed(0x72203120, 0x61742031, 0x3b202020, 0x20202020, 0x20202020), 40);
        Told.due("text", x.text(40), 0);
        Told.due("the lamp", x.play(2), 1);
        Told.due("the law", x.count(3), 1);
    }

    private static void promise2BytesAreWhole() {
        FerryHall x = new FerryHall();
        x.feed(0xFFFFFFFF, 0x80808080, LEAST, MOST, 0);
        Told.due("byte 255", x.text(20), 1);
        Told.due("at", x.fault(), 0);
        x.feed(0x20202020, 0x0A0A0A0A, 0x20202080, 0, 0);
        Told.due("byte 128", x.text(20), 1);
        Told.due("at", x.fault(), 11);
    }

    private static void promise2HowManyItHas() {
        FerryHall x = new FerryHall();
        for (int many = 20; many <= 700; many += 20) {
            Told.due("feed", x.feed(1, 2, 3, 4, 5), many);
            Told.due("count", x.count(6), many);
        }
    }

    private static void promise2NoneComeIfItWouldHaveMoreThan700() {
        FerryHall x = new FerryHall();
        Told.feed(x, "lamp at 1;" + " ".repeat(690));
        Told.due("full", x.count(6), 700);
        Told.due("one more", x.feed(0x41414141, 0x41414141, 0x41414141, 0x41414141, 0x41414141), -1);
        Told.due("and again", x.feed(0, 0, 0, 0, 0), -1);
        Told.due("none have come", x.count(6), 700);
        Told.due("all are as they were", x.text(700), 0);
        Told.due("empty then", x.feed(0, 0, 0, 0, 0), 20);
    }

    private static void promise2NoneComesAt680ToTheLast() {
        FerryHall x = new FerryHall();
        Told.feed(x, " ".repeat(680));
        Told.due("the last that has room", x.feed(0x20202020, 0x20202020, 0x20202020, 0x20202020, 0x2020203f), 700);
        Told.due("its last byte", x.text(700), 1);
        Told.due("is the 700th", x.fault(), 699);
    }

    // ---- 3

    private static void promise3FirstNBytesAreTheText() {
        FerryHall x = new FerryHall();
        Told.feed(x, "lamp at 1;never 1;?");
        Told.due("ten of them", x.text(10), 0);
        Told.due("the lamp", x.count(4), 1);
        Told.due("no law", x.count(3), 0);
        Told.feed(x, "lamp at 1;never 1;?");
        Told.due("nineteen", x.text(19), 1);
        Told.due("the last byte", x.fault(), 18);
    }

    private static void promise3TapeIsEmptyThen() {
        FerryHall x = new FerryHall();
        Told.feed(x, "lamp at 1;never 1;?");
        x.text(10);
        Told.due("bytes behind the text", x.count(6), 0);
        Told.illegal("none is left", () -> x.text(1));
        Told.feed(x, "lamp at 9;");
        Told.due("a fault", x.text(10), 4);
        Told.due("bytes behind a fault", x.count(6), 0);
        Told.feed(x, "never 1;");
        Told.due("the tape begins anew", x.text(8), 0);
        Told.due("one law", x.count(3), 1);
    }

    private static void promise3TextOfNoBytes() {
        FerryHall x = Told.hall(ONE);
        Told.feed(x, "lamp at 9;");
        Told.due("none of twenty", x.text(0), 0);
        Told.due("no things", x.count(1), 0);
        Told.due("the tape is empty", x.count(6), 0);
        Told.due("none of none", x.text(0), 0);
    }

    private static void promise3BehindAFaultAllStays() {
        FerryHall x = Told.hall("shores 3;" + WOLF + "lamp at 0;water 0 1;water 1 2;");
        Told.due("a way", x.fewest() > 0 ? 1 : 0, 1);
        int length = x.way(-1, 0);
        Told.due("made", x.cross(0, 1, 5) + x.cross(0, 0, 1) + x.cross(0, 1, 9), 0);
        Told.due("barred", x.cross(0, 0, 1), 7);
        String[] faults = {"shores 4;lamp at 1;lamp", "thing z weight 1 rows 9;thing y weight 1;x", "boat holds 8 load 9 at 1;x",
            "never 1;never 1;never 1;x", "way 1 0;x", "x", "shores 9;"};
        for (String text : faults) {
            Told.due("a fault", Told.tell(x, text) > 0 ? 1 : 0, 1);
            int[] counts = {3, 4, 1, 2, 1, 3, 0};
            for (int what = 0; what < 7; what++) {
                Told.due("count(" + what + ")", x.count(what), counts[what]);
            }
            Told.due("letter", x.thing(0, 2), 'm');
            Told.due("minutes", x.thing(1, 1), 0);
            Told.due("weight", x.thing(0, 0), 9);
            Told.due("boat", x.boat(0, 0), 2);
            Told.due("water", (x.water(0, 1) ? 1 : 0) + (x.water(0, 2) ? 2 : 0), 1);
            Told.due("bars", x.bars(6, 0, 0, false), 1);
            Told.due("the way", x.way(-1, 0), length);
            Told.due("the play", x.play(8) * 10 + x.play(9), 10);
            Told.due("the law", x.law(), 1);
            Told.due("fewest", x.fewest(), length);
        }
    }

    private static void promise3NothingOfEarlierTextsIsLeft() {
        String full = "shores 4;" + EIGHT + BOAT + BOAT + "lamp at 3;way 0 3;way 3 1;" + "never a;".repeat(12);
        FerryHall x = Told.hall(full);
        Told.due("the same again", Told.tell(x, full), 0);
        Told.due("as full", x.bars(1, 0, 0, false), 4095);
        Told.due("one clause", Told.tell(x, "thing b weight 1;"), 0);
        int[] counts = {2, 1, 0, 0, 0, 0, 0};
        for (int what = 0; what < 7; what++) {
            Told.due("count(" + what + ")", x.count(what), counts[what]);
        }
        Told.due("minutes", x.thing(0, 1), 0);
        Told.due("bars", x.bars(1, 0, 0, false), 0);
        Told.due("water", (x.water(0, 1) ? 1 : 0) + (x.water(1, 0) ? 2 : 0), 3);
        Told.due("one law", Told.tell(x, "shores 4;" + ONE + "way 0 1;never many=2;"), 0);
        Told.due("one law", x.count(3), 1);
        Told.due("of its own", x.bars(1, 0, 0, false), 0);
        Told.due("no way of another text", x.water(0, 3) || x.water(3, 1) || x.water(0, 2) ? 1 : 0, 0);
        Told.due("no boat of another text", x.count(2), 1);
    }

    private static void promise3BelowNoneIsRefused() {
        FerryHall x = Told.hall(ONE);
        Told.illegal("-1", () -> x.text(-1));
        Told.illegal("-20", () -> x.text(-20));
        Told.illegal("the least", () -> x.text(LEAST));
        Told.due("nothing changes", x.count(1), 1);
    }

    private static void promise3MoreThanTheTapeHasIsRefused() {
        FerryHall x = new FerryHall();
        Told.illegal("1 of 0", () -> x.text(1));
        Told.feed(x, "lamp at 0;");
        Told.illegal("21 of 20", () -> x.text(21));
        Told.illegal("700 of 20", () -> x.text(700));
        Told.illegal("the most", () -> x.text(MOST));
        Told.due("20 of 20", x.text(20), 0);
        Told.feed(x, " ".repeat(700));
        Told.illegal("701 of 700", () -> x.text(701));
        Told.due("700 of 700", x.text(700), 0);
    }

    private static void promise3RefusedNothingChanges() {
        FerryHall x = Told.hall(ONE + "never a at 0;");
        x.cross(0, 1, 1);
        Told.tell(x, "lamp at 9;");
        Told.feed(x, "lamp at 0;");
        Told.illegal("21 of 20", () -> x.text(21));
        Told.illegal("-1", () -> x.text(-1));
        Told.due("the tape", x.count(6), 20);
        Told.due("the fault", x.fault(), 8);
        Told.due("things", x.count(1), 1);
        Told.due("the law", x.law(), 0);
        Told.due("the text", x.text(10), 0);
        Told.due("the lamp", x.count(4), 1);
    }

    // ---- 4

    private static void promise4PlaceOfTheLatestFault() {
        FerryHall x = new FerryHall();
        Told.due("ahead of all", x.fault(), -1);
        Told.tell(x, "?");
        Told.due("at the first byte", x.fault(), 0);
        Told.tell(x, "lamp at 9;");
        Told.due("the latest", x.fault(), 8);
        Told.due("asked again", x.fault(), 8);
        Told.tell(x, " ".repeat(699) + "x");
        Told.due("at the last byte", x.fault(), 699);
        Told.tell(x, "lamp" + " ".repeat(696));
        Told.due("behind the last byte", x.fault(), 700);
    }

    private static void promise4NoneWithout() {
        FerryHall x = new FerryHall();
        Told.tell(x, "lamp at 9;");
        Told.tell(x, "lamp at 0;");
        Told.due("a good text", x.fault(), -1);
        Told.tell(x, "lamp at 9;");
        x.text(0);
        Told.due("the empty text", x.fault(), -1);
    }

    // ---- 5

    private static void promise5AnotherWhatIsRefused() {
        FerryHall x = Told.hall(ONE);
        for (int what : new int[] {-1, 7, 8, LEAST, MOST}) {
            Told.none("count(" + what + ")", () -> x.count(what));
        }
    }

    private static void promise5Counts() {
        FerryHall x = Told.hall("shores 4;" + EIGHT + BOAT + BOAT + "lamp at 1;" + "never 1=2;".repeat(12));
        int[] most = {4, 8, 2, 12, 1, 0, 0};
        for (int what = 0; what < 7; what++) {
            Told.due("count(" + what + ")", x.count(what), most[what]);
        }
        Told.due("whether there is a lamp", Told.hall("lamp at 0;").count(4), 1);
        Told.due("whether there is none", Told.hall(ONE).count(4), 0);
        FerryHall y = Told.hall(ONE);
        y.cross(0, 1, 1);
        y.cross(0, 1, 1);
        y.cross(0, 0, 1);
        Told.due("crossings that were made", y.count(5), 2);
        y.back();
        Told.due("one taken back", y.count(5), 1);
    }

    // ---- 6

    private static void promise6NoSuchThingIsRefused() {
        FerryHall x = Told.hall(EIGHT);
        Told.due("the last", x.thing(7, 2), 'h');
        for (int thing : new int[] {-1, 8, LEAST, MOST}) {
            Told.none("thing(" + thing + ")", () -> x.thing(thing, 0));
        }
        FerryHall y = Told.hall(ONE);
        Told.none("thing(1)", () -> y.thing(1, 0));
    }

    private static void promise6AnotherWhatIsRefused() {
        FerryHall x = Told.hall(ONE);
        for (int what : new int[] {-1, 3, LEAST, MOST}) {
            Told.none("thing(0, " + what + ")", () -> x.thing(0, what));
        }
    }

    private static void promise6LettersAre97To122() {
        FerryHall x = Told.hall("thing z weight 99 rows 99;thing a weight 0 rows 1;");
        int[] due = {99, 99, 122, 0, 1, 97};
        for (int i = 0; i < 6; i++) {
            Told.due("thing(" + i / 3 + ", " + i % 3 + ")", x.thing(i / 3, i % 3), due[i]);
        }
    }

    // ---- 7

    private static void promise7NoSuchBoatIsRefused() {
        FerryHall x = Told.hall(BOAT + "boat holds 8 load 999 at 1;");
        Told.due("the last", x.boat(1, 0), 8);
        for (int boat : new int[] {-1, 2, LEAST, MOST}) {
            Told.none("boat(" + boat + ")", () -> x.boat(boat, 0));
        }
        FerryHall y = Told.hall(ONE);
        Told.none("boat(1)", () -> y.boat(1, 0));
        FerryHall z = Told.hall(A);
        Told.none("boat(0)", () -> z.boat(0, 0));
    }

    private static void promise7AnotherWhatIsRefused() {
        FerryHall x = Told.hall(ONE);
        for (int what : new int[] {-1, 3, LEAST, MOST}) {
            Told.none("boat(0, " + what + ")", () -> x.boat(0, what));
        }
    }

    private static void promise7ShoreIsTheOneAtFirst() {
        FerryHall x = Told.hall(ONE);
        x.cross(0, 1, 1);
        Told.due("where it was", x.boat(0, 2), 0);
        Told.due("where it is", x.play(4), 1);
    }

    // ---- 8

    private static void promise8NoSuchShoresAreRefused() {
        FerryHall x = Told.hall("shores 3;");
        for (int shore : new int[] {-1, 3, 4, LEAST, MOST}) {
            Told.none("from " + shore, () -> x.water(shore, 0) ? 1 : 0);
            Told.none("to " + shore, () -> x.water(0, shore) ? 1 : 0);
            Told.none("both " + shore, () -> x.water(shore, shore) ? 1 : 0);
        }
    }

    private static void promise8NoWaterToTheSameShore() {
        for (String text : new String[] {"shores 4;", "shores 4;water 0 1;water 2 3;"}) {
            FerryHall x = Told.hall(text);
            for (int shore = 0; shore < 4; shore++) {
                Told.due("at " + shore, x.water(shore, shore) ? 1 : 0, 0);
            }
        }
    }

    // ---- 9

    private static final String SEVEN = "shores 3;thing a weight 1;thing b weight 2;never a;never b;never boats=0;never boats=1;"
            + "never boats=2;never lamp;never shore=3;";

    private static void promise9OtherThingsCountForNothing() {
        FerryHall x = Told.hall(SEVEN + "never 2<many;never 3<weight;");
        Told.due("a and others", x.bars(0xFFFFFFFD, 0, 0, false), 1 | 4);
        Told.due("b and the third", x.bars(6, 0, 0, false), 2 | 4);
        Told.due("both and all", x.bars(-1, 0, 0, false), 1 | 2 | 4);
        Told.due("others alone are nobody", x.bars(4, 0, 0, false), 0);
        Told.due("bit 8 alone", x.bars(256, 0, 0, false), 0);
        Told.due("the highest bit alone", x.bars(LEAST, 0, 0, false), 0);
        Told.due("nobody", x.bars(0, 0, 0, false), 0);
    }

    private static void promise9ShoreSIsAboard() {
        FerryHall x = Told.hall(SEVEN);
        Told.due("the last shore", x.bars(1, 2, 0, false), 1 | 4);
        Told.due("aboard", x.bars(1, 3, 1, false), 1 | 8 | 64);
        for (int shore : new int[] {-1, 4, LEAST, MOST}) {
            Told.none("shore " + shore, () -> x.bars(1, shore, 0, false));
        }
    }

    private static void promise9AboardIsOneBoatWhateverIsTold() {
        FerryHall x = Told.hall(SEVEN);
        for (int boats = 0; boats <= 2; boats++) {
            Told.due("told " + boats, x.bars(1, 3, boats, false), 1 | 8 | 64);
        }
    }

    private static void promise9BoatsNot0To2AreRefused() {
        FerryHall x = Told.hall(SEVEN);
        int[] due = {1 | 4, 1 | 8, 1 | 16};
        for (int boats = 0; boats <= 2; boats++) {
            Told.due("boats " + boats, x.bars(1, 0, boats, false), due[boats]);
        }
        for (int boats : new int[] {-1, 3, LEAST, MOST}) {
            Told.none("boats " + boats, () -> x.bars(1, 0, boats, false));
            Told.none("aboard, boats " + boats, () -> x.bars(1, 3, boats, false));
        }
    }

    private static void promise9LampOrNot() {
        FerryHall x = Told.hall(SEVEN);
        Told.due("though there is none", x.bars(1, 0, 0, true), 1 | 4 | 32);
        Told.due("aboard", x.bars(1, 3, 0, true), 1 | 8 | 32 | 64);
    }

    // ---- 10

    private static void promise10SetsOfAtLeastOneThing() {
        Told.due("of no things", new FerryHall().safe(0, 0, false), 0);
        Told.due("of one", Told.hall(A).safe(0, 0, false), 1);
        Told.due("of eight", Told.hall(EIGHT).safe(1, 2, true), 255);
        Told.due("all barred", Told.hall(EIGHT + "never 1;").safe(1, 2, true), 0);
        Told.due("all but the full one", Told.hall(EIGHT + "never many<8;").safe(0, 0, false), 1);
        Told.due("all but the least one", Told.hall(EIGHT + "never a=0 or 1<many;").safe(0, 0, false), 1);
    }

    private static void promise10LikewiseBoatsAndLamp() {
        FerryHall x = Told.hall(FOUR + "never many=1 and boats=0;never many=2 and boats=1;never many=3 and boats=2;"
                + "never many=4 and lamp;never a and shore=2;");
        Told.due("0 boats", x.safe(0, 0, false), 11);
        Told.due("1 boat", x.safe(0, 1, false), 9);
        Told.due("2 boats", x.safe(1, 2, false), 11);
        Told.due("the lamp", x.safe(1, 2, true), 10);
        for (int boats = 0; boats <= 2; boats++) {
            Told.due("aboard, told " + boats, x.safe(2, boats, false), 4);
        }
    }

    private static void promise10NoSuchShoreIsRefused() {
        FerryHall x = Told.hall("shores 3;" + A);
        for (int shore : new int[] {-1, 4, LEAST, MOST}) {
            Told.none("shore " + shore, () -> x.safe(shore, 0, false));
        }
        Told.due("aboard", x.safe(3, 0, false), 1);
    }

    private static void promise10BoatsNot0To2AreRefused() {
        FerryHall x = Told.hall(A);
        for (int boats : new int[] {-1, 3, LEAST, MOST}) {
            Told.none("boats " + boats, () -> x.safe(0, boats, false));
            Told.none("aboard, boats " + boats, () -> x.safe(2, boats, false));
        }
    }

    // ---- 11

    private static void reached(String text, int... due) {
        FerryHall x = Told.hall(text);
        for (int what = 0; what < due.length; what++) {
            Told.due("reached(" + what + ") of " + text, x.reached(what), due[what]);
        }
    }

    private static void promise11StatesWithoutAWay() {
        reached("shores 3;" + ONE + "way 0 1;way 0 2;", 3, 2, 1, 1);
        reached(ONE + "never 1;", 1, 0, 1, 0);
        reached(ONE, 2, 2, 0, 1);
        // over both ways, though only one boat goes back
        reached("shores 3;" + ONE + "way 0 1;way 1 0;way 0 2;way 2 1;", 3, 4, 0, 1);
    }

    private static void promise11TheMostCrossingsAway() {
        reached(WOLF, 10, 20, 0, 7);
        reached("", 1, 0, 0, 0);
        reached("shores 4;" + ONE + "way 0 1;way 1 2;way 2 3;", 4, 3, 0, 3);
        reached("shores 4;" + ONE + "way 0 1;way 1 2;way 2 3;way 0 3;way 0 2;", 4, 5, 0, 1);
        // behind the goal too
        reached("shores 3;" + ONE + "way 0 2;way 2 1;", 3, 2, 1, 2);
    }

    private static void promise11NoneIfSpent() {
        FerryHall x = Told.hall(SPENT);
        for (int what = 0; what < 4; what++) {
            Told.due("reached(" + what + ")", x.reached(what), -1);
        }
    }

    private static void promise11AnotherWhatIsRefused() {
        FerryHall x = Told.hall(ONE);
        FerryHall y = Told.hall(SPENT);
        for (int what : new int[] {-1, 4, LEAST, MOST}) {
            Told.none("reached(" + what + ")", () -> x.reached(what));
            Told.none("spent, reached(" + what + ")", () -> y.reached(what));
        }
    }

    // ---- 12, 13

    private static void promise12NoneIfThereIsNoWay() {
        Told.due("nobody rows", Told.hall("thing a weight 1;" + BOAT).fewest(), -1);
        Told.due("no boat", Told.hall(A).fewest(), -1);
        Told.due("no water", Told.hall(ONE + "way 1 0;").fewest(), -1);
        Told.due("a boat elsewhere", Told.hall(A + "boat holds 1 load 9 at 1;").fewest(), -1);
        Told.due("a lamp elsewhere", Told.hall(ONE + "lamp at 1;").fewest(), -1);
        Told.due("a law", Told.hall(ONE + "never 1 at 1;").fewest(), -1);
        FerryHall x = Told.hall(A);
        x.fewest();
        Told.none("no way is kept", () -> x.way(-1, 0));
    }

    private static void promise12SpentIsMinusTwo() {
        FerryHall x = Told.hall(SPENT);
        Told.due("fewest", x.fewest(), -2);
        Told.none("no way is kept", () -> x.way(-1, 0));
        Told.due("again", x.fewest(), -2);
    }

    private static void promise12WayOfNoCrossingsIsKept() {
        FerryHall x = new FerryHall();
        Told.due("fewest", x.fewest(), 0);
        Told.due("how many", x.way(-1, 0), 0);
        Told.due("minutes", x.way(-1, 3), 0);
        Told.none("the first", () -> x.way(0, 0));
    }

    private static void promise12WayIsKeptOverOtherCalls() {
        FerryHall x = Told.hall(WOLF);
        x.fewest();
        x.cross(0, 1, 5);
        x.hint(0);
        x.ways();
        x.laws(0);
        x.size(0);
        x.size(1);
        x.rounds();
        x.reached(2);
        x.back();
        int[] sets = {5, 1, 3, 5, 9, 1, 5};
        for (int i = 0; i < 7; i++) {
            Told.due("set " + i, x.way(i, 2), sets[i]);
        }
        Told.due("from START, wherever the play is", x.fewest(), 7);
    }

    private static final String BRIDGE = "thing a weight 1 rows 1;thing b weight 1 rows 2;thing c weight 1 rows 5;"
            + "thing d weight 1 rows 10;boat holds 2 load 99 at 0;lamp at 0;";

    private static void promise12AnotherText() {
        FerryHall x = Told.hall(WOLF);
        Told.due("one text", x.fewest(), 7);
        Told.tell(x, BRIDGE);
        Told.due("another", x.fewest(), 5);
        Told.due("its minutes", x.way(-1, 3), 2 + 1 + 5 + 1 + 10);
        Told.tell(x, A);
        Told.due("no way", x.fewest(), -1);
        Told.tell(x, SPENT);
        Told.due("spent", x.fewest(), -2);
        Told.tell(x, ONE);
        Told.due("one", x.fewest(), 1);
    }

    private static void promise12BehindOtherSearches() {
        FerryHall x = Told.hall(WOLF);
        for (int i = 0; i < 2; i++) {
            Told.due("ways", x.ways(), 2);
            Told.due("states without a way", x.reached(2), 0);
            Told.due("ways", x.ways(), 2);
            Told.due("states without a way", x.reached(2), 0);
            Told.due("fewest", x.fewest(), 7);
            Told.due("quickest", x.quickest(), 14);
            Told.due("states without a way", x.reached(2), 0);
            Told.due("quickest", x.quickest(), 14);
            Told.due("the second set", x.way(1, 2), 1);
        }
    }

    private static void promise13AnotherText() {
        FerryHall x = Told.hall(WOLF);
        Told.due("one text", x.quickest(), 14);
        Told.tell(x, BRIDGE);
        Told.due("another", x.quickest(), 17);
        Told.tell(x, "thing a weight 1 rows 99;" + BOAT);
        Told.due("one crossing", x.quickest(), 99);
    }

    private static void promise13NoneAndSpentLikewise() {
        Told.due("none", Told.hall(A).quickest(), -1);
        Told.due("none over", Told.hall(ONE + "never 1 at 1;").quickest(), -1);
        FerryHall x = Told.hall(SPENT);
        Told.due("spent", x.quickest(), -2);
        Told.none("no way is kept", () -> x.way(-1, 0));
        FerryHall y = Told.hall(A);
        y.quickest();
        Told.none("none of it", () -> y.way(-1, 0));
        FerryHall z = new FerryHall();
        Told.due("no minutes", z.quickest(), 0);
        Told.due("a way of none", z.way(-1, 0), 0);
    }

    private static void promise13LatestOfBothIsKept() {
        FerryHall x = Told.hall("thing s weight 0 rows 10;thing f weight 5 rows 1;thing g weight 5;thing h weight 5;"
                + "thing i weight 5;boat holds 3 load 10 at 0;");
        x.fewest();
        Told.due("fewest", x.way(-1, 0) * 100 + x.way(-1, 3), 330);
        x.quickest();
        Told.due("quickest", x.way(-1, 0) * 100 + x.way(-1, 3), 514);
        x.fewest();
        Told.due("fewest again", x.way(-1, 0) * 100 + x.way(-1, 3), 330);
    }

    private static void promise13MinutesOfALongWay() {
        FerryHall x = Told.hall("shores 4;thing a weight 1 rows 99;thing b weight 1 rows 99;thing c weight 1 rows 99;"
                + "thing d weight 1 rows 99;boat holds 2 load 9 at 0;way 0 1;way 1 0;way 1 2;way 2 1;way 2 3;way 3 2;");
        Told.due("99 for each crossing", x.quickest(), 99 * x.fewest());
        Told.due("fifteen", x.way(-1, 0), 15);
    }

    // ---- 14

    private static void promise14NoneIsZero() {
        Told.due("no way", Told.hall(A).ways(), 0);
        Told.due("barred", Told.hall(ONE + "never 1 at 1;").ways(), 0);
        Told.due("barred at START", Told.hall(ONE + "never 1 at 0;").ways(), 0);
    }

    private static void promise14SpentIsMinusTwo() {
        Told.due("spent", Told.hall(SPENT).ways(), -2);
    }

    private static void promise14AtMostAThousandMillion() {
        Told.due("far more", Told.hall(EIGHT + "boat holds 2 load 99 at 0;").ways(), 1000000000);
        Told.due("less", Told.hall(EIGHT.substring(0, EIGHT.indexOf("thing g")) + "boat holds 2 load 99 at 0;").ways(),
                PAIRS_OF_SIX);
    }

    /** One of 15 pairs, one of 2 who comes back, one of the 10 pairs of those left, one of 3 who comes back .. */
    private static final int PAIRS_OF_SIX = 15 * 2 * 10 * 3 * 6 * 4 * 3 * 5;

    private static void promise14OnlyWaysAsShortAsFewest() {
        Told.due("one of two lengths", Told.hall("shores 3;" + ONE).ways(), 1);
        Told.due("of two boats", Told.hall("shores 3;" + ONE + BOAT).ways(), 2);
        Told.due("of no crossings", new FerryHall().ways(), 1);
    }

    private static void promise14AnotherText() {
        FerryHall x = Told.hall(WOLF);
        Told.due("one text", x.ways(), 2);
        Told.tell(x, BRIDGE);
        Told.due("another", x.ways(), 108);
        Told.tell(x, A);
        Told.due("no way", x.ways(), 0);
    }

    private static void promise14KeepsNoWay() {
        FerryHall x = Told.hall(ONE);
        x.ways();
        Told.none("way", () -> x.way(-1, 0));
    }

    // ---- 15

    private static void promise15NoneIsKept() {
        FerryHall x = Told.hall(ONE);
        for (int what = 0; what < 4; what++) {
            int asked = what;
            Told.none("way(-1, " + what + ")", () -> x.way(-1, asked));
            Told.none("way(0, " + what + ")", () -> x.way(0, asked));
        }
    }

    private static void promise15NoSuchCrossing() {
        FerryHall x = Told.hall(WOLF);
        x.fewest();
        Told.due("the last", x.way(6, 2), 5);
        for (int i : new int[] {-2, 7, 8, 2000, LEAST, MOST}) {
            Told.none("way(" + i + ", 0)", () -> x.way(i, 0));
        }
    }

    private static void promise15NoneTellsOfAll() {
        FerryHall x = Told.hall(WOLF);
        x.fewest();
        Told.due("how many", x.way(-1, 0), 7);
        Told.due("minutes", x.way(-1, 3), 14);
        Told.none("no boat of all", () -> x.way(-1, 1));
        Told.none("no set of all", () -> x.way(-1, 2));
    }

    private static void promise15AnotherWhatIsRefused() {
        FerryHall x = Told.hall(WOLF);
        x.fewest();
        for (int what : new int[] {-1, 4, LEAST, MOST}) {
            Told.none("way(0, " + what + ")", () -> x.way(0, what));
            Told.none("way(-1, " + what + ")", () -> x.way(-1, what));
        }
    }

    private static void promise15ALaterWayIsShorterThanTheOneBefore() {
        FerryHall x = Told.hall(WOLF);
        x.fewest();
        Told.tell(x, ONE);
        x.fewest();
        Told.due("the only one", x.way(0, 2), 1);
        Told.none("none of the way before", () -> x.way(1, 2));
    }

    // ---- 16

    private static void promise16BehindNoneToAll() {
        FerryHall x = Told.hall("shores 4;" + ONE + "way 0 1;way 1 2;way 2 3;");
        x.fewest();
        for (int i = 0; i <= 3; i++) {
            Told.due("behind " + i, x.where(i, 0), i);
        }
        for (int i : new int[] {-1, 4, 5, LEAST, MOST}) {
            Told.none("behind " + i, () -> x.where(i, 0));
        }
    }

    private static void promise16NoneIsKept() {
        FerryHall x = Told.hall(ONE);
        Told.none("behind 0", () -> x.where(0, 0));
        Told.none("behind -1", () -> x.where(-1, 0));
        Told.none("behind -2", () -> x.where(-2, 0));
    }

    private static void promise16NoSuchThingIsRefused() {
        FerryHall x = Told.hall(WOLF);
        x.fewest();
        Told.due("the last", x.where(0, 3), 0);
        for (int thing : new int[] {-1, 4, LEAST, MOST}) {
            Told.none("thing " + thing, () -> x.where(0, thing));
        }
        FerryHall y = new FerryHall();
        y.fewest();
        Told.none("of none", () -> y.where(0, 0));
    }

    // ---- 17

    private static void promise17StartIsNotCounted() {
        FerryHall x = Told.hall(ONE);
        x.fewest();
        Told.due("alone at START and behind", x.rides(0, 1), 1);
        FerryHall y = Told.hall("shores 4;" + ONE + "way 0 1;way 1 2;way 2 3;");
        y.fewest();
        Told.due("behind each", y.rides(0, 1), 3);
        Told.due("rides", y.rides(0, 0), 3);
    }

    private static void promise17AloneWhetherItRodeOrNot() {
        FerryHall x = Told.hall("shores 3;" + A + B + BOAT + BOAT + "water 0 1;water 1 2;");
        x.fewest();
        Told.due("four crossings", x.way(-1, 0), 4);
        // a goes to 1 and on to 2, b stays at 0 meanwhile; then b goes to 1 and on
        Told.due("a", x.rides(0, 1), 3);
        Told.due("b", x.rides(1, 1), 3);
    }

    private static void promise17AloneAtStartsShoreBehindTheFirst() {
        FerryHall x = Told.hall("thing a weight 9 rows 1;thing b weight 1 rows 1;boat holds 1 load 1 at 0;" + BOAT);
        Told.due("two crossings", x.fewest(), 2);
        Told.due("b goes first", x.way(0, 2), 2);
        Told.due("a is left alone, then with b", x.rides(0, 1), 1);
        Told.due("b is over alone, then with a", x.rides(1, 1), 1);
        Told.due("rides of a", x.rides(0, 0), 1);
    }

    private static void promise17NoneIsKept() {
        FerryHall x = Told.hall(ONE);
        Told.none("rides", () -> x.rides(0, 0));
        Told.none("alone", () -> x.rides(0, 1));
    }

    private static void promise17NoSuchThingOrWhatIsRefused() {
        FerryHall x = Told.hall(WOLF);
        x.fewest();
        for (int thing : new int[] {-1, 4, LEAST, MOST}) {
            Told.none("thing " + thing, () -> x.rides(thing, 0));
        }
        for (int what : new int[] {-1, 2, LEAST, MOST}) {
            Told.none("what " + what, () -> x.rides(0, what));
        }
    }

    // ---- 18

    private static void promise18NoLaws() {
        Told.due("free", Told.hall(ONE).laws(0), 0);
        Told.due("alone", Told.hall(ONE).laws(1), 0);
    }

    private static void promise18TwelveLaws() {
        FerryHall x = Told.hall(ONE + "never 0;".repeat(11) + "never a at 1;");
        Told.due("free", x.laws(0), 2047);
        Told.due("alone", x.laws(1), 2048);
        FerryHall y = Told.hall(ONE + "never a at 1;".repeat(12));
        Told.due("all are free", y.laws(0), 4095);
        Told.due("none alone", y.laws(1), 0);
    }

    private static void promise18NoneIfSpent() {
        FerryHall x = Told.hall(SPENT);
        Told.due("free", x.laws(0), -1);
        Told.due("alone", x.laws(1), -1);
        FerryHall y = Told.hall(SPENT + "never 0;");
        Told.due("free", y.laws(0), -1);
        Told.due("alone", y.laws(1), -1);
    }

    private static void promise18NoneIfSpentWithoutOneOfThem() {
        String[] texts = {"never 1 aboard;", "never 0;never 1 aboard;", "never 1 aboard;never 0;", "never 1 at 0;"};
        for (String laws : texts) {
            FerryHall x = Told.hall(SPENT + laws);
            Told.due("not spent", x.fewest(), -1);
            Told.due("free", x.laws(0), -1);
            Told.due("alone", x.laws(1), -1);
            Told.due("behind it", x.fewest(), -1);
        }
        FerryHall y = Told.hall(SPENT + "never 1 aboard;never 1 at 0;");
        Told.due("not spent without either", y.laws(0) * 10 + y.laws(1), 30);
    }

    private static void promise18AnotherText() {
        FerryHall x = Told.hall(ONE + "never a at 1;never weight=5;");
        Told.due("free", x.laws(0), 2);
        Told.due("alone", x.laws(1), 1);
        Told.tell(x, "?");
        Told.due("behind a fault", x.laws(1), 1);
        Told.tell(x, ONE + "never many=2;");
        Told.due("free", x.laws(0), 1);
        Told.due("alone", x.laws(1), 0);
        Told.tell(x, SPENT + "never 0;");
        Told.due("spent", x.laws(0), -1);
        Told.tell(x, ONE);
        Told.due("no laws", x.laws(0), 0);
        Told.due("none alone", x.laws(1), 0);
    }

    private static void promise18AnotherWhatIsRefused() {
        FerryHall x = Told.hall(ONE);
        FerryHall y = Told.hall(SPENT);
        for (int what : new int[] {-1, 2, LEAST, MOST}) {
            Told.none("laws(" + what + ")", () -> x.laws(what));
            Told.none("spent, laws(" + what + ")", () -> y.laws(what));
        }
    }

    // ---- 19

    private static void promise19NoneWouldDo() {
        FerryHall x = Told.hall("thing a weight 1;boat holds 8 load 999 at 0;");
        Told.due("to hold", x.size(0), -1);
        Told.due("of load", x.size(1), -1);
        FerryHall y = Told.hall(A + "boat holds 1 load 0 at 0;");
        Told.due("the load as told", y.size(0), -1);
        Told.due("another load", y.size(1), 1);
        FerryHall z = Told.hall(A + B + "boat holds 1 load 1 at 0;never many=1 ashore;");
        Told.due("what it holds as told", z.size(1), -1);
        Told.due("too little load", z.size(0), -1);
    }

    private static void promise19TheOtherBoatStaysAsTold() {
        FerryHall x = Told.hall("thing a weight 5 rows 1;boat holds 1 load 0 at 0;boat holds 1 load 5 at 0;");
        Told.due("boat 1 takes it", x.size(1), 0);
        FerryHall y = Told.hall("thing a weight 5 rows 1;boat holds 1 load 0 at 0;boat holds 1 load 4 at 0;");
        Told.due("boat 1 can't", y.size(1), 5);
    }

    private static void promise19SpentByANumberToHold() {
        FerryHall x = Told.hall(SPENT);
        Told.due("2", x.size(0), -2);
        FerryHall y = Told.hall(SPENT.replace("holds 2", "holds 1"));
        Told.due("1 is not spent, nor does it", y.fewest(), -1);
        Told.due("2 is", y.size(0), -2);
    }

    private static void promise19NotSpentIfALesserNumberToHoldDoes() {
        String six = "shores 4;" + EIGHT.substring(0, EIGHT.indexOf("thing g"));
        FerryHall x = Told.hall(six + "boat holds 6 load 99 at 0;never many<6 and boats=0 ashore;");
        Told.due("all at once alone", x.size(0), 6);
        FerryHall y = Told.hall(EIGHT + "boat holds 8 load 99 at 0;boat holds 8 load 99 at 0;");
        Told.due("8 as told are spent", y.fewest(), -2);
        Told.due("1 does", y.size(0), 1);
    }

    private static void promise19SpentByLoad999() {
        FerryHall x = Told.hall(SPENT.replace("load 99", "load 0"));
        Told.due("as told not spent", x.fewest(), -1);
        Told.due("of load", x.size(1), -2);
        Told.due("to hold", x.size(0), -1);
    }

    private static void promise19NoBoatIsRefused() {
        FerryHall x = Told.hall(A);
        Told.none("to hold", () -> x.size(0));
        Told.none("of load", () -> x.size(1));
        FerryHall y = new FerryHall();
        Told.none("of no things", () -> y.size(0));
    }

    private static void promise19AnotherWhatIsRefused() {
        FerryHall x = Told.hall(ONE);
        for (int what : new int[] {-1, 2, LEAST, MOST}) {
            Told.none("size(" + what + ")", () -> x.size(what));
        }
    }

    private static void promise19AnotherText() {
        FerryHall x = Told.hall(WOLF);
        Told.due("one text", x.size(0) * 100 + x.size(1), 212);
        Told.tell(x, ONE);
        Told.due("another", x.size(0) * 100 + x.size(1), 101);
        Told.tell(x, "thing a weight 1;" + BOAT);
        Told.due("none to hold", x.size(0), -1);
        Told.due("none of load", x.size(1), -1);
        Told.tell(x, SPENT);
        Told.due("spent to hold", x.size(0), -2);
        Told.due("spent of load", x.size(1), -2);
        Told.tell(x, A);
        Told.none("no boat", () -> x.size(0));
    }

    private static void promise19NothingElseChanges() {
        FerryHall x = Told.hall(WOLF);
        x.size(0);
        x.size(1);
        Told.due("to hold", x.boat(0, 0), 2);
        Told.due("of load", x.boat(0, 1), 20);
        Told.due("reached", x.reached(0), 10);
        Told.due("more than it holds", x.cross(0, 1, 7), 4);
    }

    // ---- 20

    private static void promise20NoneIfThereIsNoSuchRow() {
        Told.due("nobody rows", Told.hall("thing a weight 1;" + BOAT + BOAT).rounds(), -1);
        Told.due("barred", Told.hall(ONE + BOAT + "never 1 at 1;").rounds(), -1);
        Told.due("barred at START", Told.hall(ONE + BOAT + "never 1 at 0;").rounds(), -1);
        Told.due("both boats over there", Told.hall(A + "boat holds 1 load 9 at 1;boat holds 1 load 9 at 1;").rounds(), -1);
    }

    private static void promise20NotAsToldIsMinusTwo() {
        Told.due("of nothing", new FerryHall().rounds(), -2);
        Told.due("one boat", Told.hall(ONE).rounds(), -2);
        Told.due("three shores", Told.hall("shores 3;" + ONE + BOAT).rounds(), -2);
        Told.due("four shores", Told.hall("shores 4;" + ONE + BOAT).rounds(), -2);
        Told.due("a lamp at 0", Told.hall(ONE + BOAT + "lamp at 0;").rounds(), -2);
        Told.due("a lamp at 1", Told.hall(ONE + BOAT + "lamp at 1;").rounds(), -2);
        Told.due("no things, three shores", Told.hall("shores 3;" + BOAT + BOAT).rounds(), -2);
        Told.due("barred at START, one boat", Told.hall(ONE + "never 1 at 0;").rounds(), -2);
    }

    private static void promise20BoatsHold3AtMost() {
        String[] boats = {"boat holds 3 load 9 at 0;", "boat holds 4 load 9 at 0;", "boat holds 8 load 9 at 0;"};
        Told.due("3 and 3", Told.hall(FOUR + boats[0] + boats[0]).rounds(), 1);
        for (int i = 1; i < 3; i++) {
            Told.due("the first more", Told.hall(FOUR + boats[i] + boats[0]).rounds(), -2);
            Told.due("the second more", Told.hall(FOUR + boats[0] + boats[i]).rounds(), -2);
        }
    }

    private static void promise20NoThingsNoRounds() {
        Told.due("at a goal", Told.hall(BOAT + BOAT).rounds(), 0);
    }

    private static void promise20EightThings() {
        String three = "boat holds 3 load 99 at 0;";
        Told.due("6 over, 2 back, 3 over", Told.hall(EIGHT + three + three).rounds(), 3);
        Told.due("asked again", Told.hall(EIGHT + three + three + "never 0;").rounds(), 3);
    }

    private static void promise20AnotherText() {
        FerryHall x = Told.hall(ONE + BOAT);
        Told.due("as told", x.rounds(), 1);
        Told.tell(x, ONE);
        Told.due("not as told", x.rounds(), -2);
        Told.tell(x, ONE + BOAT + "never 1 at 1;");
        Told.due("no row", x.rounds(), -1);
        Told.tell(x, "?");
        Told.due("behind a fault", x.rounds(), -1);
    }

    // ---- 21

    private static void promise21ItIsToo() {
        FerryHall x = Told.hall("thing a weight 1;thing b weight 2;thing c weight 3;never a;");
        for (int thing = 0; thing < 3; thing++) {
            Told.due("alike(" + thing + ")", x.alike(thing), 1 << thing);
        }
        Told.due("of eight", Told.hall(EIGHT).alike(7), 255);
        Told.due("one alone", Told.hall(A).alike(0), 1);
    }

    private static void promise21NoSuchThingIsRefused() {
        FerryHall x = Told.hall(FOUR);
        Told.due("the last", x.alike(3), 15);
        for (int thing : new int[] {-1, 4, 8, LEAST, MOST}) {
            Told.none("alike(" + thing + ")", () -> x.alike(thing));
        }
    }

    // ---- 22

    private static void promise22AheadOfAllIs9() {
        FerryHall x = Told.hall(ONE + "never many=2;");
        for (int i = 0; i < 60; i++) {
            Told.due("made " + i, x.cross(0, 1 - i % 2, 1), 0);
        }
        int[][] all = {{0, 1, 1}, {-1, 1, 1}, {0, 0, 1}, {0, 1, 2}, {0, 1, 0}, {LEAST, MOST, -1}};
        for (int[] c : all) {
            Told.due("cross " + c[0] + " " + c[1] + " " + c[2], x.cross(c[0], c[1], c[2]), 9);
        }
        Told.due("no law", x.law(), -1);
        x.back();
        Told.due("59 are left: barred as ever", x.cross(0, 1, 1), 1);
        Told.due("the 60th again", x.cross(0, 0, 1), 0);
        Told.due("no more", x.cross(0, 1, 1), 9);
    }

    private static void promise22WildNumbers() {
        FerryHall x = Told.hall(ONE);
        for (int wild : new int[] {-1, 2, 4, 1024, LEAST, MOST}) {
            Told.due("boat " + wild, x.cross(wild, 1, 1), 1);
            Told.due("shore " + wild, x.cross(0, wild, 1), 1);
            Told.due("set " + wild, x.cross(0, 1, wild), 2);
        }
        Told.due("none made", x.count(5), 0);
    }

    private static void promise22FromWhereTheBoatIs() {
        FerryHall x = Told.hall("shores 3;" + ONE);
        Told.due("to 2", x.cross(0, 2, 1), 0);
        Told.due("it is there", x.cross(0, 2, 1), 1);
        Told.due("to 1", x.cross(0, 1, 1), 0);
        Told.due("and home", x.cross(0, 0, 1), 0);
    }

    // ---- 23

    private static void promise23LeastLawOf7Or8() {
        FerryHall x = Told.hall(ONE + "thing b weight 1;never a at 1;never b and boats=0;never a aboard;");
        Told.due("7", x.cross(0, 1, 1), 7);
        Told.due("the least that bars by 7", x.law(), 1);
        FerryHall y = Told.hall(ONE + "never 0;never a at 1;never 1 at 1;");
        Told.due("8", y.cross(0, 1, 1), 8);
        Told.due("the least that bars by 8", y.law(), 1);
        FerryHall z = Told.hall(ONE + "never 0;".repeat(11) + "never a at 1;");
        z.cross(0, 1, 1);
        Told.due("the twelfth", z.law(), 11);
    }

    private static void promise23NoneElse() {
        FerryHall x = Told.hall(STRICT);
        Told.due("ahead of all", x.law(), -1);
        int[][] others = {{0, 0, 1, 1}, {0, 1, 64, 2}, {0, 1, 0, 3}, {0, 1, 3, 4}, {0, 1, 2, 5}, {0, 1, 4, 0}};
        for (int[] c : others) {
            Told.due("barred by a law", x.cross(0, 1, 1), 7);
            Told.due("law", x.law(), 0);
            Told.due("cross", x.cross(c[0], c[1], c[2]), c[3]);
            Told.due("none by " + c[3], x.law(), -1);
        }
        Told.due("barred by a law behind", x.cross(0, 2, 4), 8);
        Told.due("law", x.law(), 1);
        Told.due("the lamp is away", x.cross(1, 1, 1), 6);
        Told.due("none by 6", x.law(), -1);
    }

    /** a may not ride, b is too heavy, c may cross, but not to 2. */
    private static final String STRICT = "shores 3;" + A + "thing b weight 9 rows 1;thing c weight 1 rows 1;"
            + "boat holds 1 load 8 at 0;" + BOAT + "lamp at 0;never a aboard;never c at 2;";

    private static void promise23StaysOverOtherCalls() {
        FerryHall x = Told.hall(ONE + "never a at 1;");
        x.cross(0, 1, 1);
        x.back();
        x.fewest();
        x.hint(0);
        x.laws(0);
        Told.due("law", x.law(), 0);
        Told.due("asked again", x.law(), 0);
        Told.tell(x, "?");
        Told.due("behind a fault", x.law(), 0);
        Told.illegal("refused", () -> x.text(-1));
        Told.due("behind a refused text", x.law(), 0);
        x.text(0);
        Told.due("behind a new text", x.law(), -1);
    }

    // ---- 24

    private static void promise24NoneIfThereIsNone() {
        FerryHall x = Told.hall(ONE);
        Told.due("none was made", x.back(), -1);
        x.cross(0, 1, 64);
        Told.due("a barred one is none", x.back(), -1);
        x.cross(0, 1, 1);
        Told.due("none is left", x.back(), 0);
        Told.due("none", x.back(), -1);
        Told.due("and none made", x.count(5), 0);
        Told.due("of nothing", new FerryHall().back(), -1);
    }

    private static void promise24HowManyAreLeft() {
        FerryHall x = Told.hall("shores 3;thing a weight 1 rows 7;thing b weight 1 rows 1;boat holds 2 load 9 at 0;"
                + "lamp at 0;");
        for (int i = 0; i < 60; i++) {
            x.cross(0, (i + 1) % 3, i < 30 ? 3 : 1);
        }
        Told.due("60", x.count(5), 60);
        for (int left = 59; left >= 0; left--) {
            Told.due("left", x.back(), left);
            Told.due("minutes", x.play(0), 7 * left);
            Told.due("the lamp", x.play(2), left % 3);
            Told.due("the boat", x.play(4), left % 3);
            Told.due("a", x.play(8), left % 3);
            Told.due("b", x.play(9), Math.min(left, 30) % 3);
        }
    }

    // ---- 25

    private static void promise25LampsShoreOrNone() {
        Told.due("none", Told.hall(ONE).play(2), -1);
        Told.due("at 0", Told.hall("lamp at 0;").play(2), 0);
        Told.due("at 3", Told.hall("shores 4;lamp at 3;").play(2), 3);
        FerryHall x = Told.hall(ONE);
        x.cross(0, 1, 1);
        Told.due("none goes along", x.play(2), -1);
    }

    private static void promise25BoatsThatThereAre() {
        FerryHall x = Told.hall("shores 4;" + A + "boat holds 1 load 9 at 3;boat holds 1 load 9 at 2;");
        Told.due("boat 0", x.play(4), 3);
        Told.due("boat 1", x.play(5), 2);
        Told.none("boat 2", () -> x.play(6));
        FerryHall y = Told.hall(ONE);
        Told.due("boat 0", y.play(4), 0);
        Told.none("boat 1", () -> y.play(5));
        FerryHall z = Told.hall(A);
        Told.none("boat 0 of none", () -> z.play(4));
    }

    private static void promise25ThingsThatThereAre() {
        FerryHall x = Told.hall(EIGHT);
        Told.due("the last", x.play(15), 0);
        Told.none("behind it", () -> x.play(16));
        FerryHall y = Told.hall(A);
        Told.due("the first", y.play(8), 0);
        Told.none("the second", () -> y.play(9));
        FerryHall z = new FerryHall();
        Told.none("the first of none", () -> z.play(8));
    }

    private static void promise25AnotherWhatIsRefused() {
        FerryHall x = Told.hall(EIGHT + BOAT + BOAT);
        for (int what : new int[] {-1, 3, 6, 7, 16, 256, LEAST, MOST}) {
            Told.none("play(" + what + ")", () -> x.play(what));
        }
    }

    private static void promise25WhetherAtAGoal() {
        FerryHall x = Told.hall("shores 3;" + ONE);
        int[] to = {1, 2, 0, 2};
        int[] due = {0, 1, 0, 1};
        for (int i = 0; i < 4; i++) {
            x.cross(0, to[i], 1);
            Told.due("at " + to[i], x.play(1), due[i]);
        }
        x.back();
        Told.due("taken back", x.play(1), 0);
    }

    // ---- 26

    private static void promise26AtAGoal() {
        FerryHall x = Told.hall(ONE);
        x.cross(0, 1, 1);
        int[] due = {0, -1, -1, -1};
        for (int what = 0; what < 4; what++) {
            Told.due("hint(" + what + ")", x.hint(what), due[what]);
        }
    }

    private static void promise26NoWay() {
        FerryHall x = Told.hall("shores 3;" + ONE + "way 0 1;way 0 2;");
        x.cross(0, 1, 1);
        FerryHall y = Told.hall(A);
        FerryHall z = Told.hall(ONE + "never 1;");
        for (int what = 0; what < 4; what++) {
            Told.due("from where the play is", x.hint(what), -1);
            Told.due("from START", y.hint(what), -1);
            Told.due("from a barred START", z.hint(what), -1);
        }
        x.back();
        Told.due("taken back", x.hint(0) * 100 + x.hint(2), 102);
    }

    private static void promise26Spent() {
        FerryHall x = Told.hall(SPENT);
        for (int what = 0; what < 4; what++) {
            Told.due("hint(" + what + ")", x.hint(what), -2);
        }
    }

    private static void promise26AnotherWhatIsRefused() {
        FerryHall x = Told.hall(ONE);
        FerryHall y = Told.hall(SPENT);
        for (int what : new int[] {-1, 4, LEAST, MOST}) {
            Told.none("hint(" + what + ")", () -> x.hint(what));
            Told.none("spent, hint(" + what + ")", () -> y.hint(what));
        }
    }

    private static void promise26FromWhereThePlayIs() {
        FerryHall x = Told.hall(WOLF);
        Told.due("from START", x.hint(0), 7);
        x.cross(0, 1, 5);
        Told.due("one on", x.hint(0) * 1000 + x.hint(1) * 100 + x.hint(2) * 10 + x.hint(3), 6001);
        x.cross(0, 0, 5);
        Told.due("and home again", x.hint(0) * 1000 + x.hint(1) * 100 + x.hint(2) * 10 + x.hint(3), 7015);
        Told.none("it keeps no way", () -> x.way(-1, 0));
    }

    private static void promise26AnotherText() {
        FerryHall x = Told.hall(WOLF);
        Told.due("one text", x.hint(0), 7);
        Told.tell(x, BRIDGE);
        Told.due("another", x.hint(0) * 100 + x.hint(3), 503);
        Told.tell(x, A);
        Told.due("no way", x.hint(0), -1);
        Told.tell(x, "?");
        Told.due("behind a fault", x.hint(0), -1);
    }

    private static void promise26TheFirstOfLikeOnes() {
        FerryHall x = Told.hall("shores 4;thing a weight 1 rows 1;thing b weight 9 rows 1;boat holds 1 load 1 at 0;"
                + "boat holds 1 load 9 at 0;water 0 1;water 0 2;water 1 3;water 2 3;never a at 1;never b at 2;");
        int[] due = {4021, 3031, 2112, 1132};
        for (int i = 0; i < 4; i++) {
            Told.due("step " + i, x.hint(0) * 1000 + x.hint(1) * 100 + x.hint(2) * 10 + x.hint(3), due[i]);
            x.cross(x.hint(1), x.hint(2), x.hint(3));
        }
        Told.due("at a goal", x.play(1), 1);
    }

    private static void promise26AtTheSixtiethCrossing() {
        FerryHall x = Told.hall("shores 3;" + ONE);
        for (int i = 0; i < 60; i++) {
            x.cross(0, 1 - i % 2, 1);
        }
        Told.due("there is a way, though none can be made", x.hint(0) * 1000 + x.hint(1) * 100 + x.hint(2) * 10 + x.hint(3),
                1021);
        Told.due("none more", x.cross(0, 2, 1), 9);
    }
}
