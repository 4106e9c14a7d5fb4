/**
 * The face and sections 1 to 4 of DOC.md ("Terms"): a test for each sentence that names a boundary case, named after the
 * section.
 */
public final class EdgesOfTermsTest {
    private static final String A = "thing a weight 1 rows 1;";
    private static final String B = "thing b weight 1 rows 1;";
    private static final String BOAT = "boat holds 1 load 9 at 0;";
    private static final String ONE = A + BOAT;
    private static final String FOUR = A + B + "thing c weight 1 rows 1;thing d weight 1 rows 1;";
    private static final String EIGHT = FOUR + "thing e weight 1 rows 1;thing f weight 1 rows 1;"
            + "thing g weight 1 rows 1;thing h weight 1 rows 1;";

    public static void main(String[] args) {
        Told.runEach(EdgesOfTermsTest.class);
        Told.end();
    }

    // ---- the face

    private static void faceNoneIsMinusOne() {
        Told.due("NONE", FerryHall.NONE, -1);
    }

    private static void faceCall512IsAnsweredAsAnyOther() {
        FerryHall x = new FerryHall();
        String text = EIGHT + "boat holds 3 load 99 at 0;boat holds 3 load 99 at 0;never a and b and many=2 ashore;";
        int calls = (text.length() + 19) / 20 + 1;
        Told.due("text", Told.tell(x, text), 0);
        for (; calls < 504; calls += 7) {
            x.fewest();
            x.quickest();
            x.laws(calls & 1);
            x.size(calls & 1);
            x.cross(0, 1, 4);
            x.back();
            x.rounds();
        }
        while (calls < 511) {
            Told.none("a refused call", () -> x.count(7));
            calls++;
        }
        Told.due("the 512th", x.fewest(), Told.hall(text).fewest());
    }

    // ---- 1: what there is at most

    private static void terms1ShoresAreTwoToFour() {
        for (int s = 2; s <= 4; s++) {
            FerryHall x = Told.hall("shores " + s + ";");
            Told.due("SHORES", x.count(0), s);
            Told.due("the last one", x.water(0, s - 1) ? 1 : 0, 1);
            int behind = s;
            Told.none("the one behind", () -> x.water(0, behind) ? 1 : 0);
        }
        Told.fault("shores 1;", 2, 7);
        Told.fault("shores 0;", 2, 7);
        Told.fault("shores 5;", 2, 7);
        Told.fault("shores 999;", 2, 7);
    }

    private static void terms1ThingsAreEightAtMost() {
        Told.due("eight", Told.hall(EIGHT).count(1), 8);
        Told.fault(EIGHT + "thing i weight 1;", 2, EIGHT.length());
    }

    private static void terms1BoatsAreTwoAtMost() {
        Told.due("two", Told.hall(BOAT + BOAT).count(2), 2);
        Told.fault(BOAT + BOAT + BOAT, 2, 2 * BOAT.length());
    }

    private static void terms1LawsAreTwelveAtMost() {
        String twelve = "never 1;".repeat(12);
        FerryHall x = Told.hall(A + twelve);
        Told.due("twelve", x.count(3), 12);
        Told.due("all of them bar", x.bars(1, 0, 0, false), 4095);
        Told.fault(twelve + "never 1;", 2, twelve.length());
    }

    private static void terms1LampThereMayBe() {
        Told.due("none", Told.hall("").count(4), 0);
        Told.due("one", Told.hall("lamp at 0;").count(4), 1);
        Told.due("one at 1", Told.hall("lamp at 1;").count(4), 1);
    }

    private static void terms1TextIsOf700Bytes() {
        String full = A + " ".repeat(700 - 2 * A.length()) + B;
        FerryHall x = Told.hall(full);
        Told.due("the first and the last clause", x.count(1), 2);
        Told.due("without its last byte", Told.tell(x, full.substring(0, 699)), 1);
        Told.due("it ends too soon", x.fault(), 699);
        String code = "never 1" + "+1".repeat(346) + ";";
        Told.due("700 bytes", code.length(), 700);
        Told.due("many numbers", Told.tell(x, code), 0);
    }

    private static void terms1AtFirstTwoShoresAndNothingElse() {
        FerryHall x = Told.hall("shores 4;" + ONE + "lamp at 1;never 1;way 0 3;");
        Told.due("the empty text", x.text(0), 0);
        Told.due("SHORES", x.count(0), 2);
        Told.due("THINGS", x.count(1), 0);
        Told.due("BOATS", x.count(2), 0);
        Told.due("LAWS", x.count(3), 0);
        Told.due("LAMP", x.count(4), 0);
        Told.due("water", (x.water(0, 1) ? 1 : 0) + (x.water(1, 0) ? 2 : 0), 3);
    }

    // ---- 1: tokens

    private static void terms1WordIsTheLongestRowOfLetters() {
        Told.fault("thinga weight 1;", 1, 0);
        Told.fault("thing aweight 1;", 1, 6);
        Told.fault("never notmany;", 3, 6);
        Told.fault("never 1 atashore;", 1, 8);
        Told.fault("never 1 a shore;", 1, 8);
        Told.fault("sho res 3;", 1, 0);
        Told.fault("never(many)ashore;", 0, -1);
        Told.fault("thing a weight 1rows 1;", 0, -1);
    }

    private static void terms1LettersAreAToZ() {
        Told.fault("thing z weight 1;thing a weight 1;", 0, -1);
        Told.fault("thing " + (char) 96 + " weight 1;", 1, 6);
        Told.fault("thing { weight 1;", 1, 6);
        Told.fault("thing A weight 1;", 1, 6);
        Told.fault("thing Z weight 1;", 1, 6);
        Told.fault("thing " + (char) 225 + " weight 1;", 1, 6);
    }

    private static void terms1NumberHasOneToThreeDigits() {
        Told.fault("never 0;never 00;never 000;never 999;never 099;", 0, -1);
        Told.due("009", Told.hall("thing a weight 009;").thing(0, 0), 9);
        Told.due("90", Told.hall("thing a weight 90;").thing(0, 0), 90);
        Told.fault("never 0000;", 2, 6);
        Told.fault("never 0001;", 2, 6);
        Told.fault("never 12345678901234567890;", 2, 6);
        Told.fault("never 1 2;", 1, 8);
    }

    private static void terms1DigitsAre0To9() {
        Told.fault("never 0123456789;", 2, 6);
        Told.fault("never :;", 1, 6);
        Told.fault("never 1:;", 1, 7);
        Told.fault("never " + (char) 178 + ";", 1, 6);
    }

    private static void terms1SignsAreNine() {
        Told.fault("never (1+1-1*1/1)<1;never 1=1;", 0, -1);
        String signs = ";()+-*/<=";
        for (int sign = 0; sign < 256; sign++) {
            boolean joins = signs.indexOf(sign) > 2;
            boolean blank = sign == 32 || sign == 10;
            boolean digit = sign >= '0' && sign <= '9';
            boolean letter = sign >= 'a' && sign <= 'z';
            if (!digit) {
                String text = "never 1" + (char) sign + "1;";
                Told.fault(text, joins ? 0 : 1, joins ? -1 : blank || sign == ';' ? 8 : 7);
            }
            if (!letter && !digit && !blank && signs.indexOf(sign) < 0) {
                Told.fault("" + (char) sign, 1, 0);
                Told.fault("shores 3; \n" + (char) sign, 1, 11);
            }
        }
    }

    private static void terms1BlanksBetweenTokensCountForNothing() {
        String text = "shores 3;thing a weight 1 rows 2;boat holds 1 load 9 at 0;never a and(1<2)at 2;";
        StringBuilder wide = new StringBuilder(" \n ");
        java.util.regex.Matcher token = java.util.regex.Pattern.compile("[a-z]+|[0-9]+|[^a-z0-9 ]").matcher(text);
        while (token.find()) {
            wide.append(token.group()).append("\n  \n");
        }
        FerryHall x = Told.hall(wide.toString());
        FerryHall y = Told.hall(text);
        Told.due("bars", x.bars(1, 2, 0, false), y.bars(1, 2, 0, false));
        Told.due("minutes", x.thing(0, 1), 2);
        Told.due("fewest", x.fewest(), y.fewest());
    }

    private static void terms1BlanksAre32And10() {
        Told.fault("thing\na weight 1;", 0, -1);
        for (int sign : new int[] {0, 9, 11, 12, 13, 31, 33, 127, 160, 255}) {
            Told.fault("thing a" + (char) sign + "weight 1;", 1, 7);
        }
    }

    // ---- 1: the grammar

    private static void terms1TextMayBeEmpty() {
        Told.fault("", 0, -1);
        Told.fault(" \n ", 0, -1);
        Told.fault("shores 2;", 0, -1);
    }

    private static void terms1ShoresStandAheadOfAllOrNowhere() {
        Told.fault(A + "shores 3;", 1, A.length());
        Told.fault("shores 3;shores 3;", 1, 9);
        Told.fault("shores 3 thing a weight 1;", 1, 9);
    }

    private static void terms1EachClauseEndsBehindItsSign() {
        Told.fault(";", 1, 0);
        Told.fault("lamp at 0;;", 1, 10);
        Told.fault("lamp at 0 never 1;", 1, 10);
        Told.fault("lamp at 0", 1, 9);
    }

    private static void terms1NameIsAWordOfOneLetter() {
        Told.fault("thing ab weight 1;", 1, 6);
        Told.fault("thing weight weight 1;", 1, 6);
        Told.fault("thing 1 weight 1;", 1, 6);
        Told.fault("thing a weight 1;never ab;", 3, 23);
    }

    private static void terms1TestStandsOnceInANot() {
        Told.fault("never 1<2<3;", 1, 9);
        Told.fault("never 1=2=3;", 1, 9);
        Told.fault("never not 1<2 and not 2=3;", 0, -1);
        Told.fault("never (1<2)<3;", 0, -1);
    }

    private static void terms1NotStandsAheadOfASumAlone() {
        Told.fault("never 1+not 1;", 3, 8);
        Told.fault("never 1=not 1;", 3, 8);
        Told.fault("never 1*(not 1);", 0, -1);
        Told.holds("not 1<0", true);
        Told.holds("not 0+1", false);
    }

    private static void terms1AndBindsCloserThanOr() {
        Told.holds("1 or 1 and 0", true);
        Told.holds("0 and 1 or 1", true);
        Told.holds("(1 or 1) and 0", false);
        Told.holds("1+2*3=7", true);
        Told.holds("1+1<1+2", true);
    }

    // ---- 1: numbers

    private static void terms1CountedFromTheLeft() {
        Told.holds("10-3-2=5", true);
        Told.holds("10-(3-2)=9", true);
        Told.holds("100/10/5=2", true);
        Told.holds("7/2*2=6", true);
        Told.holds("2*7/4=3", true);
        Told.holds("10-3+2=9", true);
    }

    private static void terms1IntsWrap() {
        String least = "512*512*512*16";
        Told.holds(least + "<0", true);
        Told.holds("0<" + least + "-1", true);
        Told.holds(least + "+" + least + "=0", true);
        Told.holds("512*512*512*8+512*512*512*8=" + least, true);
        Told.holds("0-" + least + "=" + least, true);
        Told.holds(least + "/(0-1)=" + least, true);
        Told.holds("512*512*512*32=0", true);
        Told.holds("512*512*512*32", false);
        Told.holds("999*999*999*999<0", true);
    }

    private static void terms1DividesCutDownTo0() {
        Told.holds("7/2=3", true);
        Told.holds("(0-7)/2=0-3", true);
        Told.holds("7/(0-2)=0-3", true);
        Told.holds("(0-7)/(0-2)=3", true);
        Told.holds("(0-1)/2=0", true);
        Told.holds("1/2", false);
    }

    private static void terms1DividedBy0Gives0() {
        Told.holds("5/0=0", true);
        Told.holds("5/0", false);
        Told.holds("0/0=0", true);
        Told.holds("(0-5)/0=0", true);
        Told.holds("1+5/(many-many)=1", true);
    }

    private static void terms1TestsNotAndOrAreOneOrZero() {
        Told.holds("(2<3)=1 and (3<3)=0 and (4<3)=0", true);
        Told.holds("(5=5)=1 and (5=6)=0", true);
        Told.holds("(not 7)=0 and (not 0)=1 and (not not 7)=1", true);
        Told.holds("(5 and 7)=1 and (5 and 0)=0 and (0 and 5)=0", true);
        Told.holds("(5 or 0)=1 and (0 or 5)=1 and (5 or 7)=1 and (0 or 0)=0", true);
        Told.holds("(7)=7", true);
    }

    private static void terms1WhatIsNot0Holds() {
        Told.holds("0-1", true);
        Told.holds("2", true);
        Told.holds("0", false);
        Told.holds("(0-1) and 2", true);
        Told.holds("0 or 0-1", true);
        Told.holds("not (0-1)", false);
    }

    // ---- 1: what clauses tell

    private static void terms1ThingWeighs0To99() {
        Told.due("the least", Told.hall("thing a weight 0;").thing(0, 0), 0);
        Told.due("the most", Told.hall("thing a weight 99;").thing(0, 0), 99);
        Told.fault("thing a weight 100;", 2, 15);
        Told.fault("thing a weight 999;", 2, 15);
    }

    private static void terms1ThingRows1To99Minutes() {
        Told.due("the least", Told.hall("thing a weight 0 rows 1;").thing(0, 1), 1);
        Told.due("the most", Told.hall("thing a weight 0 rows 99;").thing(0, 1), 99);
        Told.fault("thing a weight 0 rows 0;", 2, 22);
        Told.fault("thing a weight 0 rows 100;", 2, 22);
    }

    private static void terms1MinutesOfOthersAre0() {
        FerryHall x = Told.hall("thing a weight 0 rows 9;");
        Told.tell(x, "thing b weight 5;thing a weight 0 rows 9;");
        Told.due("of one that doesn't row", x.thing(0, 1), 0);
    }

    private static void terms1BoatHolds1To8() {
        Told.due("the least", Told.hall("boat holds 1 load 9 at 0;").boat(0, 0), 1);
        Told.due("the most", Told.hall("boat holds 8 load 9 at 0;").boat(0, 0), 8);
        Told.fault("boat holds 0 load 9 at 0;", 2, 11);
        Told.fault("boat holds 9 load 9 at 0;", 2, 11);
        Told.due("all eight at once", Told.hall(EIGHT + "boat holds 8 load 8 at 0;").fewest(), 1);
    }

    private static void terms1BoatsLoadIs0To999() {
        Told.due("the least", Told.hall("boat holds 1 load 0 at 0;").boat(0, 1), 0);
        Told.due("the most", Told.hall("boat holds 1 load 999 at 0;").boat(0, 1), 999);
        Told.fault("boat holds 1 load 1000 at 0;", 2, 18);
        Told.due("nothing of any weight", Told.hall(A + "boat holds 1 load 0 at 0;").fewest(), -1);
        Told.due("what weighs 0", Told.hall("thing a weight 0 rows 1;boat holds 1 load 0 at 0;").fewest(), 1);
    }

    private static void terms1WaterLiesBothWays() {
        FerryHall x = Told.hall("shores 3;water 2 1;");
        Told.due("to and fro", (x.water(2, 1) ? 1 : 0) + (x.water(1, 2) ? 2 : 0), 3);
        Told.due("no other", x.water(0, 1) || x.water(1, 0) || x.water(0, 2) || x.water(2, 0) ? 1 : 0, 0);
        FerryHall y = Told.hall("shores 3;water 1 2;water 0 1;");
        Told.due("the first told", (y.water(1, 2) ? 1 : 0) + (y.water(2, 1) ? 2 : 0), 3);
        Told.due("the second told", (y.water(0, 1) ? 1 : 0) + (y.water(1, 0) ? 2 : 0), 3);
    }

    private static void terms1WayGoesOneWayOnly() {
        FerryHall x = Told.hall("shores 3;way 2 1;");
        Told.due("to, not fro", (x.water(2, 1) ? 1 : 0) + (x.water(1, 2) ? 2 : 0), 1);
        Told.due("no other", x.water(0, 1) || x.water(1, 0) || x.water(0, 2) || x.water(2, 0) ? 1 : 0, 0);
        FerryHall y = Told.hall("way 0 1;way 1 0;");
        Told.due("two ways", (y.water(0, 1) ? 1 : 0) + (y.water(1, 0) ? 2 : 0), 3);
        FerryHall z = Told.hall("way 0 1;water 1 0;way 0 1;");
        Told.due("told again", (z.water(0, 1) ? 1 : 0) + (z.water(1, 0) ? 2 : 0), 3);
    }

    private static void terms1WaterIsBetweenAnyTwoIfNoneIsTold() {
        for (int s = 2; s <= 4; s++) {
            FerryHall x = Told.hall("way 0 1;");
            Told.tell(x, "shores " + s + ";" + ONE);
            for (int k = 0; k < s * s; k++) {
                Told.due("of " + s + " from " + k / s + " to " + k % s, x.water(k / s, k % s) ? 1 : 0, k / s == k % s ? 0 : 1);
            }
        }
    }

    // ---- 1: faults

    private static void terms1FirstFaultAlongTheText() {
        Told.fault("lamp at 9;thing ab weight 1;", 4, 8);
        Told.fault("thing ab weight 1;lamp at 9;", 1, 6);
        Told.fault("never foo+1000;", 3, 6);
        Told.fault("never 1000+foo;", 2, 6);
        Told.fault("water 0 0;boat holds 9", 5, 8);
        Told.fault("shores 5;lamp at 4;", 2, 7);
    }

    private static void terms1FaultStandsAtItsTokensFirstByte() {
        Told.fault("  thinggg a weight 1;", 1, 2);
        Told.fault("thing a weight \n 100;", 2, 17);
        Told.fault("never   foo;", 3, 8);
        Told.fault("lamp at   3;", 4, 10);
        Told.fault("water 1   001;", 5, 10);
    }

    private static void terms1LeastFaultOfOneToken() {
        // can't stand there, though it has four digits, is no part, or is deep
        Told.fault("never 1 1000;", 1, 8);
        Told.fault("thing 1000;", 1, 6);
        Told.fault("never 1 foo;", 1, 8);
        Told.fault("lamp foo 0;", 1, 5);
        Told.fault("never ((((((;", 1, 12);
        Told.fault("thing ab weight 1;", 1, 6);
        // too much, though it is no part, or there is none such
        Told.fault("never ((((((foo))))));", 2, 12);
        Told.fault("never ((((((q))))));", 2, 12);
        Told.fault("lamp at 1000;", 2, 8);
        Told.fault("water 0 0000;", 2, 8);
        Told.fault(EIGHT + "thing a weight 1;", 2, EIGHT.length());
        // no such shore, though it were the first one too
        Told.fault("water 2 2;", 4, 6);
    }

    private static void terms1Fault1IsATokenThatCantStandThere() {
        Told.fault("weight;", 1, 0);
        Told.fault("7;", 1, 0);
        Told.fault("thing a 1;", 1, 8);
        Told.fault("thing a weight b;", 1, 15);
        Told.fault("thing a weight 1 rows;", 1, 21);
        Told.fault("thing a weight 1 holds 1;", 1, 17);
        Told.fault("boat holds x;", 1, 11);
        Told.fault("boat holds 1 at 0;", 1, 13);
        Told.fault("boat holds 1 load 1 1;", 1, 20);
        Told.fault("water;", 1, 5);
        Told.fault("water 0;", 1, 7);
        Told.fault("way 0 x;", 1, 6);
        Told.fault("lamp at a;", 1, 8);
        Told.fault("never;", 1, 5);
        Told.fault("never 1 at;", 1, 10);
        Told.fault("never 1 ashore 1;", 1, 15);
        Told.fault("never 1 aboard at 1;", 1, 15);
        Told.fault("never (1;", 1, 8);
        Told.fault("never 1);", 1, 7);
        Told.fault("never =1;", 1, 6);
        Told.fault("never 1+;", 1, 8);
        Told.fault("never not;", 1, 9);
        Told.fault("never 1 or;", 1, 10);
    }

    private static void terms1Fault1IsWhatIsNoToken() {
        Told.fault("never 1 & 1;", 1, 8);
        Told.fault("never ((((((!", 1, 12);
        Told.fault("lamp at -;", 1, 8);
        Told.fault("thing a weight 1." + "5;", 1, 16);
    }

    /** A text cut behind any token ends too soon, unless it is cut behind a clause; so it does with blanks behind. */
    private static void terms1Fault1IsAtTheTextsLengthWhereItEndsTooSoon() {
        String text = "shores 3;thing a weight 10 rows 2;boat holds 1 load 5 at 2;water 0 1;way 1 2;lamp at 0;"
                + "never not a and(many<2 or 1=boats)+3*4/5-6 ashore;never 1 at 2;";
        java.util.regex.Matcher token = java.util.regex.Pattern.compile("[a-z]+|[0-9]+|[^a-z0-9 ]").matcher(text);
        while (token.find()) {
            String cut = text.substring(0, token.end());
            boolean whole = token.group().equals(";");
            Told.fault(cut, whole ? 0 : 1, whole ? -1 : cut.length());
            Told.fault(cut + " \n ", whole ? 0 : 1, whole ? -1 : cut.length() + 3);
        }
    }

    private static void terms1Fault2IsANumberOf4DigitsOrMore() {
        Told.fault("shores 0003;", 2, 7);
        Told.fault("thing a weight 0001;", 2, 15);
        Told.fault("thing a weight 1 rows 0001;", 2, 22);
        Told.fault("boat holds 0001 load 1 at 0;", 2, 11);
        Told.fault("boat holds 1 load 0001 at 0;", 2, 18);
        Told.fault("boat holds 1 load 1 at 0000;", 2, 23);
        Told.fault("water 0000 1;", 2, 6);
        Told.fault("way 0 0001;", 2, 6);
        Told.fault("lamp at 00000;", 2, 8);
        Told.fault("never 1 at 0001;", 2, 11);
        Told.fault("never 0001;", 2, 6);
    }

    private static void terms1Fault2IsTheFirstTokenOfThe9thThing() {
        Told.fault(EIGHT + " thing", 2, EIGHT.length() + 1);
        Told.fault(EIGHT + "thing thing;", 2, EIGHT.length());
        Told.fault(EIGHT + "boat", 1, EIGHT.length() + 4);
    }

    private static void terms1Fault2IsTheFirstTokenOfThe3rdBoat() {
        Told.fault(BOAT + A + BOAT + "boat 1;", 2, 2 * BOAT.length() + A.length());
        Told.fault(BOAT + BOAT + "thing", 1, 2 * BOAT.length() + 5);
    }

    private static void terms1Fault2IsTheFirstTokenOfThe13thNever() {
        String twelve = "never 0;".repeat(12);
        Told.fault(twelve + "lamp at 0;\nnever", 2, twelve.length() + 11);
        Told.fault("never 0;".repeat(11) + "never", 1, 93);
    }

    private static void terms1Fault2IsTheFirstTokenOfAnExprWithin6Others() {
        Told.fault("never (((((1)))));", 0, -1);
        Told.fault("never (((((a+1)))));", 4, 11);
        Told.fault("never ((((((1))))));", 2, 12);
        Told.fault("never ((((((many))))));", 2, 12);
        Told.fault("never ((((((not 1))))));", 2, 12);
        Told.fault("never (((((((1)))))));", 2, 12);
        Told.fault("never (((((( 1 ", 2, 13);
        Told.fault("never 1 and (1+(1<(1*(1-(1/(1))))));", 2, 28);
        Told.fault("never 1 and (1+(1<(1*(1-(1/1)))));", 0, -1);
        Told.fault("never (((((1)))))+(((((1)))))<(((((1)))));", 0, -1);
    }

    private static void terms1Fault2IsTheSeventhNotSideBySide() {
        String six = "not ".repeat(6);
        Told.fault("never " + six + "1;", 0, -1);
        Told.fault("never " + six + "not 1;", 2, 30);
        Told.fault("never " + six + "not", 2, 30);
        Told.fault("never " + six + "(" + six + "1) or " + six + "1 and " + six + "1;", 0, -1);
        Told.fault("never (1 or " + six + " not 1);", 2, 37);
        Told.holds(six + "5=1", false);
        Told.holds("(" + six + "5)=1", true);
        Told.holds("(" + six.substring(4) + "5)=0", true);
    }

    private static void terms1Fault3IsAWordThatIsNoPart() {
        String[] words = {"foo", "and", "or", "at", "ashore", "aboard", "thing", "shores", "boat", "rows", "holds", "load",
            "never", "water", "way", "manys", "man", "lamps", "rower", "weights", "zz"};
        for (String word : words) {
            Told.fault("never " + word + ";", 3, 6);
            Told.fault("never 1+" + word + ";", 3, 8);
            Told.fault("never 1 and not " + word + ";", 3, 16);
            Told.fault("never (" + word + ");", 3, 7);
        }
        Told.fault("never many+weight+rowers+boats+lamp+shore;", 0, -1);
        Told.fault("never 1*not 1;", 3, 8);
    }

    private static void terms1Fault4IsAShoreThatThereIsnt() {
        for (int s = 2; s <= 4; s++) {
            String shores = "shores " + s + ";";
            Told.fault(shores + "lamp at " + (s - 1) + ";", 0, -1);
            Told.fault(shores + "lamp at " + s + ";", 4, 17);
            Told.fault(shores + "boat holds 1 load 1 at " + s + ";", 4, 32);
            Told.fault(shores + "water " + s + " 0;", 4, 15);
            Told.fault(shores + "water 0 " + s + ";", 4, 17);
            Told.fault(shores + "way 0 " + s + ";", 4, 15);
            Told.fault(shores + "never 1 at " + s + ";", 4, 20);
        }
        Told.fault("lamp at 999;", 4, 8);
    }

    private static void terms1Fault4IsANameThatNoThingAheadHas() {
        Told.fault("never a;", 4, 6);
        Told.fault("never a;thing a weight 1;", 4, 6);
        Told.fault("thing a weight 1;never a+b;", 4, 25);
        Told.fault("thing a weight 1;thing b weight 1;never a+b;", 0, -1);
        FerryHall x = Told.hall(A);
        Told.due("a thing of the text before", Told.tell(x, "never a;"), 4);
    }

    private static void terms1Fault5IsANameThatOneHasAlready() {
        Told.fault("thing a weight 1;thing b weight 1;thing a weight 1;", 5, 40);
        Told.fault("thing b weight 1;thing a weight 1;thing b", 5, 40);
        FerryHall x = Told.hall(A);
        Told.due("one of the text before", Told.tell(x, A), 0);
    }

    private static void terms1Fault5IsASecondLamp() {
        Told.fault("lamp at 0;lamp at 0;", 5, 10);
        Told.fault("lamp at 1;" + A + "lamp", 5, 10 + A.length());
        FerryHall x = Told.hall("lamp at 0;");
        Told.due("one in the text before", Told.tell(x, "lamp at 1;"), 0);
    }

    private static void terms1Fault5IsASecondShoreThatIsTheFirst() {
        Told.fault("water 0 0;", 5, 8);
        Told.fault("way 1 1;", 5, 6);
        Told.fault("water 001 1;", 5, 10);
        Told.fault("shores 4;way 3 3;", 5, 15);
    }

    // ---- 2: states and groups

    private static void terms2StartHasThingsAtShore0() {
        FerryHall x = Told.hall("shores 4;" + FOUR + "boat holds 1 load 9 at 3;boat holds 1 load 9 at 2;lamp at 1;");
        int[] due = {0, 0, 0, 0, 3, 2, 1};
        int[] asked = {8, 9, 10, 11, 4, 5, 2};
        for (int i = 0; i < 7; i++) {
            Told.due("play(" + asked[i] + ")", x.play(asked[i]), due[i]);
        }
    }

    private static void terms2GoalHasAllThingsAtTheLastShore() {
        FerryHall x = Told.hall("shores 3;" + A + B + BOAT + BOAT);
        x.cross(0, 2, 1);
        Told.due("one of two", x.play(1), 0);
        x.cross(1, 1, 2);
        Told.due("at another shore", x.play(1), 0);
        x.cross(1, 2, 2);
        Told.due("both", x.play(1), 1);
    }

    private static void terms2OfNoThingsEveryStateIsAGoal() {
        FerryHall x = Told.hall("shores 4;" + BOAT + "lamp at 2;never 1;way 3 0;");
        Told.due("at a goal", x.play(1), 1);
        Told.due("fewest", x.fewest(), 0);
        Told.due("ways", x.ways(), 1);
        Told.due("quickest", x.quickest(), 0);
        Told.due("no state without a way", x.reached(2), 0);
        Told.due("to hold", x.size(0), 1);
        Told.due("of load", x.size(1), 0);
        Told.due("free", x.laws(0), 1);
        Told.due("rounds", Told.hall(BOAT + BOAT + "never 1;").rounds(), 0);
    }

    private static void terms2AboardLiesOneBoat() {
        Told.due("a law for it", Told.hall(ONE + "never boats=1 aboard;").cross(0, 1, 1), 7);
        Told.due("a law for none", Told.hall(ONE + "never boats=0 aboard;").cross(0, 1, 1), 0);
        Told.due("a law for two", Told.hall(ONE + BOAT + "never boats=2 aboard;").cross(0, 1, 1), 0);
    }

    private static void terms2AboardIsTheLampThatThereIs() {
        Told.due("a lamp", Told.hall(ONE + "lamp at 0;never lamp=1 aboard;").cross(0, 1, 1), 7);
        Told.due("the lamp is there", Told.hall(ONE + "lamp at 0;never lamp=0 aboard;").cross(0, 1, 1), 0);
        Told.due("no lamp", Told.hall(ONE + "never lamp=0 aboard;").cross(0, 1, 1), 7);
        Told.due("none is there", Told.hall(ONE + "never lamp=1;").cross(0, 1, 1), 0);
    }

    private static void terms2AboardIsShoreS() {
        for (int s = 2; s <= 4; s++) {
            String text = "shores " + s + ";" + ONE + "never shore=";
            Told.due("shore " + s, Told.hall(text + s + ";").cross(0, 1, 1), 7);
            Told.due("beyond", Told.hall(text + (s + 1) + ";").cross(0, 1, 1), 0);
            Told.due("behind", Told.hall(text + "1;").cross(0, 1, 1), 8);
        }
    }

    private static void terms2NoLawBarsAGroupOfNoThing() {
        FerryHall x = Told.hall(ONE + "never many=0;never weight=0;never 1 at 1;");
        Told.due("bars", x.bars(0, 1, 0, false), 0);
        Told.due("the shore that is left empty", x.cross(0, 1, 1), 8);
        Told.due("but for the law of one", x.law(), 2);
        Told.due("an empty shore", Told.hall(ONE + "never many=0;").fewest(), 1);
    }

    private static void terms2LawGoesForItsGroups() {
        FerryHall x = Told.hall("shores 3;" + A + "never 1;never 1 ashore;never 1 aboard;never 1 at 0;never 1 at 2;");
        int[] due = {1 | 2 | 8, 1 | 2, 1 | 2 | 16, 1 | 4};
        for (int shore = 0; shore < 4; shore++) {
            Told.due("at " + shore, x.bars(1, shore, 0, false), due[shore]);
        }
    }

    private static void terms2PartsTellOfThoseInTheGroup() {
        String text = "thing a weight 7 rows 1;thing b weight 4;thing c weight 9 rows 3;thing d weight 99;";
        FerryHall x = Told.hall(text + "never a;never b;never many=2;never weight=11;never rowers=1;never weight=13;"
                + "never rowers=2;never many=4;never rowers=0;never weight=119;");
        Told.due("a and b", x.bars(3, 0, 0, false), 1 | 2 | 4 | 8 | 16);
        Told.due("b and c", x.bars(6, 0, 0, false), 2 | 4 | 16 | 32);
        Told.due("all", x.bars(15, 0, 0, false), 1 | 2 | 64 | 128 | 512);
        Told.due("d", x.bars(8, 0, 0, false), 256);
    }

    // ---- 2: crossings

    private static final String STRICT = "shores 3;thing a weight 5 rows 1;thing b weight 6 rows 1;thing c weight 6;"
            + "thing d weight 0;boat holds 1 load 5 at 0;boat holds 8 load 99 at 1;lamp at 1;way 0 1;way 1 2;";

    private static void terms2Barred1NoSuchBoatOrShoreOrWater() {
        FerryHall x = Told.hall("shores 3;" + ONE + "boat holds 1 load 9 at 1;way 0 1;way 1 2;");
        Told.due("boat -1", x.cross(-1, 1, 1), 1);
        Told.due("boat 2", x.cross(2, 1, 1), 1);
        Told.due("shore -1", x.cross(0, -1, 1), 1);
        Told.due("shore 3", x.cross(0, 3, 1), 1);
        Told.due("its own shore", x.cross(0, 0, 1), 1);
        Told.due("no water", x.cross(0, 2, 1), 1);
        Told.due("water from there", x.cross(0, 1, 1), 0);
        Told.due("no water back", x.cross(0, 0, 1), 1);
        Told.due("one boat alone", Told.hall(ONE).cross(1, 1, 1), 1);
    }

    private static void terms2Barred2AThingIsntThere() {
        FerryHall x = Told.hall(A + B + BOAT + "boat holds 2 load 9 at 1;");
        Told.due("at the other shore", x.cross(1, 0, 1), 2);
        Told.due("none such", x.cross(0, 1, 4), 2);
        Told.due("none such beside one", x.cross(0, 1, 5), 2);
        Told.due("bit 8", x.cross(0, 1, 257), 2);
        Told.due("the highest bit", x.cross(0, 1, 1 | 1 << 31), 2);
        Told.due("all bits", x.cross(0, 1, -1), 2);
        Told.due("eight things", Told.hall(EIGHT + BOAT).cross(0, 1, 256), 2);
        Told.due("the eighth", Told.hall(EIGHT + BOAT).cross(0, 1, 128), 0);
    }

    private static void terms2Barred3NobodyRows() {
        FerryHall x = Told.hall(A + "thing b weight 1;boat holds 2 load 9 at 0;");
        Told.due("nobody at all", x.cross(0, 1, 0), 3);
        Told.due("one who can't", x.cross(0, 1, 2), 3);
        Told.due("one who can", x.cross(0, 1, 3), 0);
    }

    private static void terms2Barred4MoreThanItHolds() {
        FerryHall x = Told.hall(FOUR + "boat holds 2 load 99 at 0;");
        Told.due("three", x.cross(0, 1, 7), 4);
        Told.due("two", x.cross(0, 1, 6), 0);
        Told.due("eight of eight", Told.hall(EIGHT + "boat holds 8 load 99 at 0;").cross(0, 1, 255), 0);
        Told.due("eight of seven", Told.hall(EIGHT + "boat holds 7 load 99 at 0;").cross(0, 1, 255), 4);
    }

    private static void terms2Barred5TooMuchLoad() {
        String text = "thing a weight 99 rows 1;thing b weight 1;boat holds 2 load ";
        Told.due("one too much", Told.hall(text + "99 at 0;").cross(0, 1, 3), 5);
        Told.due("just as much", Told.hall(text + "100 at 0;").cross(0, 1, 3), 0);
    }

    private static void terms2Barred6TheLampIsntThere() {
        FerryHall x = Told.hall(A + B + BOAT + BOAT + "lamp at 0;");
        Told.due("with it", x.cross(0, 1, 1), 0);
        Told.due("it is across", x.cross(1, 1, 2), 6);
        Told.due("back with it", x.cross(0, 0, 1), 0);
        Told.due("it is back", x.cross(1, 1, 2), 0);
        Told.due("no lamp at all", Told.hall(ONE).cross(0, 1, 1), 0);
    }

    private static void terms2Barred7TheGroupAboard() {
        FerryHall x = Told.hall(A + B + "boat holds 2 load 9 at 0;never many=2 aboard;");
        Told.due("two", x.cross(0, 1, 3), 7);
        Told.due("one", x.cross(0, 1, 1), 0);
    }

    private static void terms2Barred7AtAShoreWithTheBoatOnTheWater() {
        Told.due("those left", Told.hall(A + B + BOAT + "never b and many=1 at 0;").cross(0, 1, 1), 7);
        Told.due("no boat is left", Told.hall(A + B + BOAT + "never boats=0 at 0;").cross(0, 1, 1), 7);
        Told.due("one boat is left", Told.hall(A + B + BOAT + BOAT + "never boats=1 at 0;").cross(0, 1, 1), 7);
        Told.due("the lamp is gone", Told.hall(A + B + BOAT + "lamp at 0;never lamp=0 at 0;").cross(0, 1, 1), 7);
        FerryHall x = Told.hall(A + B + BOAT + BOAT + "never many=1 and boats=0 at 1;");
        Told.due("over", x.cross(0, 1, 1), 0);
        Told.due("the other shore, ahead of it", x.cross(1, 1, 2), 0);
    }

    private static void terms2Barred8AtAShoreBehindIt() {
        Told.due("come to", Told.hall(A + B + BOAT + "never a at 1;").cross(0, 1, 1), 8);
        Told.due("with the boat", Told.hall(A + B + BOAT + "never boats=1 at 1;").cross(0, 1, 1), 8);
        Told.due("with the lamp", Told.hall(A + B + BOAT + "lamp at 0;never lamp=1 at 1;").cross(0, 1, 1), 8);
        FerryHall x = Told.hall(A + B + BOAT + BOAT + "never a and b at 1;");
        Told.due("the first", x.cross(0, 1, 1), 0);
        Told.due("with those there", x.cross(1, 1, 2), 8);
    }

    private static void terms2BarredByTheLeastNumber() {
        FerryHall x = Told.hall(STRICT + "never many=1 aboard;never a at 1;");
        Told.due("1 ahead of 2", x.cross(0, 2, 256), 1);
        Told.due("1 ahead of 3", x.cross(0, 2, 0), 1);
        Told.due("2 ahead of 3", x.cross(0, 1, 256 | 8), 2);
        Told.due("2 ahead of 3, at the other shore", x.cross(1, 2, 8), 2);
        Told.due("3 ahead of 4 and 5", x.cross(0, 1, 12), 3);
        Told.due("4 ahead of 5", x.cross(0, 1, 3), 4);
        Told.due("4 ahead of 6", x.cross(0, 1, 9), 4);
        Told.due("5 ahead of 6", x.cross(0, 1, 2), 5);
        Told.due("6 ahead of 7", x.cross(0, 1, 1), 6);
        Told.due("no law", x.law(), -1);
        FerryHall y = Told.hall(ONE + "never a at 1;never a aboard;");
        Told.due("7 ahead of 8", y.cross(0, 1, 1), 7);
        Told.due("the law that bars so", y.law(), 1);
    }

    private static void terms2LampGoesAlong() {
        FerryHall x = Told.hall("shores 4;" + ONE + "lamp at 0;");
        for (int to : new int[] {3, 1, 2, 0}) {
            x.cross(0, to, 1);
            Told.due("the lamp", x.play(2), to);
        }
    }

    private static void terms2MinutesAreTheMostOfThoseAboard() {
        FerryHall x = Told.hall("thing a weight 1 rows 7;thing b weight 1 rows 99;thing c weight 1;"
                + "boat holds 3 load 9 at 0;");
        x.cross(0, 1, 7);
        Told.due("of all", x.play(0), 99);
        x.cross(0, 0, 5);
        Told.due("of the one who rows", x.play(0), 106);
    }

    private static void terms2OrderedByBoatThenShore() {
        FerryHall x = Told.hall("shores 4;thing a weight 1 rows 1;thing b weight 9 rows 1;boat holds 1 load 1 at 0;"
                + "boat holds 1 load 9 at 0;water 0 1;water 0 2;water 1 3;water 2 3;never a at 1;never b at 2;");
        Told.due("fewest", x.fewest(), 4);
        Told.due("ways", x.ways(), 6);
        row(x, 0, 2, 1, 0, 3, 1, 1, 1, 2, 1, 3, 2);
        Told.due("as quick", x.quickest(), 4);
        row(x, 0, 2, 1, 0, 3, 1, 1, 1, 2, 1, 3, 2);
    }

    private static void terms2OrderedByShoreThenSet() {
        FerryHall x = Told.hall("shores 4;" + A + B + BOAT + BOAT
                + "water 0 1;water 0 2;water 1 3;water 2 3;never a at 1;never b at 2;");
        Told.due("fewest", x.fewest(), 4);
        Told.due("ways", x.ways(), 12);
        row(x, 0, 1, 2, 0, 3, 2, 1, 2, 1, 1, 3, 1);
    }

    private static void terms2OrderedByTheSetAsANumber() {
        FerryHall x = Told.hall(A + B + "thing c weight 1 rows 1;boat holds 2 load 9 at 0;");
        Told.due("fewest", x.fewest(), 3);
        row(x, 0, 1, 3, 0, 0, 1, 0, 1, 5);
        FerryHall y = Told.hall(A + B + "thing c weight 1 rows 1;boat holds 1 load 9 at 0;boat holds 2 load 9 at 0;");
        Told.due("fewest", y.fewest(), 2);
        row(y, 0, 1, 1, 1, 1, 6);
    }

    private static void row(FerryHall x, int... due) {
        for (int i = 0; i < due.length; i++) {
            Told.due("way(" + i / 3 + ", " + i % 3 + ")", x.way(i / 3, i % 3), due[i]);
        }
    }

    private static void terms2FromABarredStartThereAreNoCrossings() {
        FerryHall x = Told.hall(ONE + BOAT + "never a at 0;");
        Told.due("states", x.reached(0), 1);
        Told.due("crossings", x.reached(1), 0);
        Told.due("without a way", x.reached(2), 1);
        Told.due("fewest", x.fewest(), -1);
        Told.due("quickest", x.quickest(), -1);
        Told.due("ways", x.ways(), 0);
        Told.due("hint", x.hint(0), -1);
        Told.due("rounds", x.rounds(), -1);
        Told.due("to hold", x.size(0), -1);
        Told.due("of load", x.size(1), -1);
        Told.due("a law for aboard is none", Told.hall(ONE + "never many=2 aboard;").fewest(), 1);
    }

    private static void terms2FromABarredStartAllIsBarredBy7() {
        FerryHall x = Told.hall(STRICT + "never a aboard;never d at 1;never c ashore;never many=4 at 0;");
        Told.due("1", x.cross(0, 2, 1), 1);
        Told.due("2", x.cross(0, 1, 16), 2);
        Told.due("3", x.cross(0, 1, 8), 3);
        Told.due("4", x.cross(0, 1, 3), 4);
        Told.due("5", x.cross(0, 1, 2), 5);
        Told.due("6", x.cross(0, 1, 1), 6);
        FerryHall y = Told.hall(A + B + BOAT + "never a aboard;never a at 1;never b at 0;never many=2 at 0;");
        Told.due("7", y.cross(0, 1, 1), 7);
        Told.due("the least law that bars there", y.law(), 2);
        Told.due("none is made", y.count(5), 0);
        FerryHall z = Told.hall(A + B + BOAT + "never a and many=2 at 0;");
        Told.due("7, though none bars then", z.cross(0, 1, 1), 7);
        Told.due("the law that bars there", z.law(), 0);
    }

    // ---- 3

    private static void terms3StartIsReachedToo() {
        Told.due("nothing else", Told.hall(A).reached(0), 1);
        Told.due("one crossing away", Told.hall(ONE + "way 0 1;").reached(0), 2);
    }

    private static void terms3CrossingsFromAGoalCountToo() {
        FerryHall x = Told.hall(ONE);
        Told.due("to and fro", x.reached(1), 2);
        FerryHall y = Told.hall("shores 3;" + ONE + "way 0 2;way 2 1;");
        Told.due("states behind a goal", y.reached(0), 3);
        Told.due("no way from there", y.reached(2), 1);
    }

    /** The search asks the laws by rows of its own: it must come to what crossings made by hand come to. */
    private static void terms3ReachedAreAllThatCrossingsComeTo() {
        String things = A + "thing b weight 1 rows 2;thing c weight 1;";
        String[] rest = {"boat holds 2 load 9 at 0;", "boat holds 2 load 9 at 0;lamp at 0;", "boat holds 2 load 2 at 0;" + BOAT,
            "boat holds 2 load 9 at 0;boat holds 2 load 9 at 0;lamp at 0;", BOAT + "boat holds 3 load 9 at 1;"};
        String[] laws = {"", "never b and many=1 at 0;", "never boats=0 at 0;", "never boats=1 at 0;", "never boats=2 at 0;",
            "never boats=0 at 1;", "never boats=1 at 1;", "never boats=2 at 1;", "never boats=0;", "never lamp=0 at 0;",
            "never lamp at 0;", "never lamp=0 at 1;", "never lamp at 1;", "never lamp=0 aboard;", "never lamp aboard;",
            "never a aboard;", "never many=2 aboard;", "never boats=1 aboard;", "never shore=2;", "never shore=3;",
            "never shore=1 and many=2;", "never a and b at 1;", "never many=1 ashore;", "never b and not a;"};
        for (String law : laws) {
            for (String more : rest) {
                reachedByHand(things + more + law);
            }
            reachedByHand("shores 3;" + things + rest[1] + "way 0 1;water 1 2;way 2 0;" + law);
            reachedByHand("shores 3;" + A + B + BOAT + BOAT + "water 0 1;way 0 2;water 1 2;" + law);
        }
    }

    private static void reachedByHand(String text) {
        Walk walk = new Walk(text);
        FerryHall x = Told.hall(text);
        Told.due("states of " + text, x.reached(0), walk.depths.size());
        Told.due("crossings of " + text, x.reached(1), walk.crossings);
        Told.due("farthest of " + text, x.reached(3), walk.farthest);
        Told.due("fewest of " + text, x.fewest(), walk.fewest);
    }

    private static final String FIVE = "shores 3;" + EIGHT.substring(0, EIGHT.indexOf("thing f"));

    private static void terms3SpentAreMoreThan2000States() {
        FerryHall x = Told.hall(FIVE + "boat holds 2 load 99 at 0;boat holds 2 load 99 at 0;water 0 1;water 1 2;"
                + "never a*b*c*d and many<6 at 1;never a*d*e and many=4 at 2;");
        Told.due("2000", x.reached(0), 2000);
        Told.due("a way", x.fewest(), 8);
        FerryHall y = Told.hall(FIVE + "boat holds 2 load 99 at 0;boat holds 1 load 99 at 0;water 0 1;water 1 2;"
                + "never b*d*e and many<5 at 1;");
        Told.due("2001", y.reached(0), -1);
        Told.due("no way", y.fewest(), -2);
    }

    private static void terms3SpentAreMoreThan40000Crossings() {
        String eight = EIGHT.replace("thing a weight 1 rows 1", "thing a weight 1")
                + "boat holds 4 load 99 at 0;boat holds 3 load 99 at 0;";
        FerryHall x = Told.hall(eight + "never a*b*h and many=3 at 0;never b*d*e*g*h and many<7 and boats=0 at 0;");
        Told.due("40,000", x.reached(1), 40000);
        Told.due("a way", x.fewest(), 4);
        FerryHall y = Told.hall("shores 3;" + EIGHT + "boat holds 3 load 99 at 0;boat holds 6 load 99 at 0;water 0 2;"
                + "way 0 1;never many<6 at 1;never a*g*h and many=4 ashore;never e*f and many<4 aboard;");
        Told.due("40,001, of 1223 states", y.reached(1), -1);
        Told.due("no way", y.fewest(), -2);
    }

    private static void terms3FewestTakesTheFirstRowOfLikeOnes() {
        FerryHall x = Told.hall("thing a weight 1 rows 9;" + B + "boat holds 1 load 9 at 0;boat holds 2 load 9 at 0;");
        Told.due("one crossing", x.fewest(), 1);
        row(x, 1, 1, 3);
        FerryHall y = Told.hall("thing a weight 1 rows 9;" + B + BOAT + BOAT);
        Told.due("two", y.fewest(), 2);
        row(y, 0, 1, 1, 1, 1, 2);
    }

    private static final String SLOW = "thing s weight 0 rows 10;thing f weight 5 rows 1;thing g weight 5;"
            + "thing h weight 5;thing i weight 5;boat holds 3 load 10 at 0;";

    private static void terms3QuickestTakesTheLeastMinutes() {
        FerryHall x = Told.hall(SLOW);
        Told.due("fewest", x.fewest(), 3);
        Told.due("minutes of the fewest", x.way(-1, 3), 30);
        Told.due("quickest", x.quickest(), 14);
        Told.due("crossings of the quickest", x.way(-1, 0), 5);
    }

    private static void terms3QuickestTakesTheFewestCrossingsOfLikeMinutes() {
        FerryHall x = Told.hall("thing d weight 1 rows 3;thing b weight 1;thing m weight 1 rows 1;thing p weight 1;"
                + "thing j weight 1 rows 5;boat holds 3 load 999 at 0;never 2<many and rowers=1 ashore;");
        Told.due("minutes", x.quickest(), 9);
        Told.due("crossings, not five", x.way(-1, 0), 3);
    }

    private static void terms3QuickestTakesTheFirstRowThen() {
        FerryHall x = Told.hall(A + B + "thing c weight 1 rows 1;boat holds 2 load 9 at 0;");
        Told.due("minutes", x.quickest(), 3);
        row(x, 0, 1, 3, 0, 0, 1, 0, 1, 5);
        FerryHall y = Told.hall("shores 4;" + A + B + BOAT + BOAT
                + "water 0 1;water 0 2;water 1 3;water 2 3;never a at 1;never b at 2;");
        Told.due("minutes", y.quickest(), 4);
        row(y, 0, 1, 2, 0, 3, 2, 1, 2, 1, 1, 3, 1);
    }

    private static void terms3WithoutALawAllElseIsAsItIs() {
        // without law 0 nothing bars START, but law 1 still bars; without law 1 law 0 still does
        FerryHall x = Told.hall(ONE + "never a at 0;never a at 1;");
        Told.due("alone", x.laws(1), 0);
        Told.due("free, for there is no way either", x.laws(0), 3);
        FerryHall y = Told.hall(ONE + "never a at 0;never many=2;");
        Told.due("that of START alone", y.laws(1), 1);
        Told.due("the other is free", y.laws(0), 2);
        Told.due("nothing has changed", y.fewest(), -1);
    }

    private static void terms3FreeIsALawOfAsManyCrossings() {
        FerryHall x = Told.hall(A + B + "boat holds 2 load 9 at 0;" + BOAT + "never many=2 aboard;never many=3;");
        Told.due("two", x.fewest(), 2);
        Told.due("one without it", x.laws(0), 2);
        Told.due("alone bars none", x.laws(1), 0);
        FerryHall y = Told.hall(A + B + "boat holds 2 load 9 at 0;never many=2 aboard;never many=3;");
        Told.due("one at a time never ends", y.fewest(), -1);
        Told.due("no way either", y.laws(0), 2);
        Told.due("alone", y.laws(1), 1);
    }

    private static void terms3AloneBarMaybeTwo() {
        String rhomb = "shores 4;" + ONE + "water 0 1;water 0 2;water 1 3;water 2 3;";
        FerryHall x = Told.hall(rhomb + "never a at 1;never a at 2;");
        Told.due("no way", x.fewest(), -1);
        Told.due("a way without either", x.laws(1), 3);
        Told.due("none is free", x.laws(0), 0);
        FerryHall y = Told.hall(rhomb + "never a at 1;never 0;");
        Told.due("there is a way: none bars", y.laws(1), 0);
        Told.due("as many without either", y.laws(0), 3);
        FerryHall z = Told.hall(rhomb + "never a at 3;never a at 1;never a at 2;");
        Told.due("no way without any one", z.laws(1), 0);
        Told.due("so all are free", z.laws(0), 7);
    }

    private static void terms3SizeHolds1To8() {
        Told.due("1", Told.hall(A + "boat holds 8 load 9 at 0;").size(0), 1);
        Told.due("8", Told.hall(EIGHT + "boat holds 1 load 99 at 0;never many<8;").size(0), 8);
        Told.due("9 there can't be", Told.hall(EIGHT + "boat holds 1 load 7 at 0;never many<8;").size(0), -1);
    }

    private static void terms3SizeLoads0To999() {
        Told.due("0", Told.hall("thing a weight 0 rows 1;boat holds 8 load 9 at 0;").size(1), 0);
        Told.due("1", Told.hall(A + "boat holds 8 load 0 at 0;").size(1), 1);
        String heavy = EIGHT.replace("weight 1 ", "weight 99 ") + "boat holds 8 load 0 at 0;never many<8;";
        Told.due("all that can be told", Told.hall(heavy).size(1), 792);
        Told.due("999 would not do", Told.hall("thing a weight 1;boat holds 8 load 0 at 0;").size(1), -1);
        for (int weight = 1; weight < 99; weight++) {
            Told.due("weight " + weight, Told.hall("thing a weight " + weight + " rows 1;" + BOAT).size(1), weight);
        }
    }

    private static void terms3RoundsAreOfTwoShoresTwoBoatsNoLamp() {
        String three = "boat holds 3 load 9 at 0;";
        Told.due("as told", Told.hall(FOUR + three + three).rounds(), 1);
        Told.due("three shores", Told.hall("shores 3;" + FOUR + three + three).rounds(), -2);
        Told.due("one boat", Told.hall(FOUR + three).rounds(), -2);
        Told.due("no boat", Told.hall(FOUR).rounds(), -2);
        Told.due("the first holds 4", Told.hall(FOUR + three.replace('3', '4') + three).rounds(), -2);
        Told.due("the second holds 4", Told.hall(FOUR + three + three.replace('3', '4')).rounds(), -2);
        Told.due("a lamp", Told.hall(FOUR + three + three + "lamp at 0;").rounds(), -2);
    }

    private static void terms3RoundsOfOneBoatOrBothAtOnce() {
        Told.due("both", Told.hall(A + B + BOAT + BOAT).rounds(), 1);
        Told.due("one", Told.hall(ONE + BOAT).rounds(), 1);
        Told.due("one rows, one is barred", Told.hall(A + B + BOAT + BOAT.replace('9', '0')).rounds(), -1);
        // the boat at 1 stays till one has come who rows it back
        String three = A + B + "thing c weight 1 rows 1;";
        Told.due("one, then one, then both", Told.hall(three + "boat holds 2 load 9 at 0;boat holds 1 load 9 at 1;").rounds(),
                3);
        Told.due("the other one", Told.hall(three + "boat holds 1 load 9 at 1;boat holds 2 load 9 at 0;").rounds(), 3);
        Told.due("one at 1 alone", Told.hall(A + "boat holds 1 load 9 at 1;" + BOAT).rounds(), 1);
        Told.due("the other at 1 alone", Told.hall(A + BOAT + "boat holds 1 load 9 at 1;").rounds(), 1);
    }

    private static void terms3RoundsHaveNoThingInCommon() {
        Told.due("two for two boats", Told.hall(A + B + BOAT + BOAT + "never many=1 ashore;").rounds(), 1);
        Told.due("one who rows can't row both", Told.hall(A + "thing b weight 1;" + BOAT + BOAT).rounds(), -1);
        Told.due("nor be in both", Told.hall(A + "thing b weight 1;thing c weight 1;" + "boat holds 2 load 9 at 0;"
                + "boat holds 2 load 9 at 0;never many=1 ashore;").rounds(), -1);
    }

    private static void terms3RoundsAreBarredEachAsByItself() {
        String rows = "thing a weight 5 rows 1;thing b weight 5 rows 1;";
        Told.due("load of each", Told.hall(rows + "boat holds 1 load 5 at 0;boat holds 1 load 5 at 0;").rounds(), 1);
        Told.due("too heavy for one", Told.hall(rows + "boat holds 1 load 5 at 0;boat holds 1 load 4 at 0;"
                + "never many=1 at 0;").rounds(), -1);
        Told.due("aboard of one", Told.hall(rows + BOAT + BOAT + "never a aboard;").rounds(), -1);
        Told.due("aboard lies one boat", Told.hall(rows + BOAT + BOAT + "never boats=2 aboard;never boats=0 aboard;")
                .rounds(), 1);
        Told.due("no water", Told.hall(rows + BOAT + BOAT + "way 1 0;").rounds(), -1);
        Told.due("a boat that isn't there", Told.hall(rows + BOAT + "boat holds 1 load 9 at 1;").rounds(), -1);
    }

    private static void terms3RoundsNeedWaterToAndFro() {
        String five = FOUR + "thing e weight 1 rows 1;boat holds 2 load 9 at 0;boat holds 2 load 9 at 0;";
        Told.due("none told", Told.hall(five).rounds(), 3);
        Told.due("both ways", Told.hall(five + "water 0 1;").rounds(), 3);
        Told.due("both ways", Told.hall(five + "water 1 0;").rounds(), 3);
        Told.due("two ways", Told.hall(five + "way 1 0;way 0 1;").rounds(), 3);
        Told.due("none back", Told.hall(five + "way 0 1;").rounds(), -1);
        Told.due("none over", Told.hall(five + "way 1 0;").rounds(), -1);
    }

    /** Boats that leave shore 0 together or not at all: four cross, two come back, the last three cross. */
    private static final String TOGETHER = FOUR + "thing e weight 1 rows 1;boat holds 2 load 9 at 0;boat holds 2 load 9 at 0;"
            + "never boats=1 at 0;never boats=3;";

    private static void terms3RoundsBar7WithBothSetsGone() {
        Told.due("together", Told.hall(TOGETHER).rounds(), 3);
        Told.due("those left at 0", Told.hall(TOGETHER + "never 0<many and many<4 at 0;").rounds(), -1);
        Told.due("one of them", Told.hall(TOGETHER + "never many=1 and boats=0 at 0;").rounds(), 3);
        Told.due("those left at 1", Told.hall(TOGETHER + "never many<3 and boats=0 at 1;").rounds(), -1);
        String both = A + B + BOAT + BOAT;
        Told.due("nobody is left", Told.hall(both + "never many=1 at 0;").rounds(), 1);
    }

    private static void terms3RoundsBar7WithNoBoatThere() {
        Told.due("no boat at 0", Told.hall(TOGETHER + "never boats=0 at 0;").rounds(), -1);
        Told.due("no boat at 1", Told.hall(TOGETHER + "never boats=0 at 1;").rounds(), -1);
        Told.due("no lamp at all", Told.hall(TOGETHER + "never lamp=1;").rounds(), 3);
        Told.due("no lamp at 0", Told.hall(TOGETHER + "never lamp=0 and boats=0 at 0;").rounds(), -1);
        Told.due("no lamp at 1", Told.hall(TOGETHER + "never lamp=0 and boats=0 at 1;").rounds(), -1);
        Told.due("the boat that stays", Told.hall(A + B + "thing c weight 1 rows 1;boat holds 2 load 9 at 0;"
                + "boat holds 1 load 9 at 1;never boats=0 at 0;never boats=2 at 0;").rounds(), -1);
        Told.due("one that stays", Told.hall(A + B + BOAT + BOAT + "never boats=1 at 0;").rounds(), 1);
    }

    private static void terms3RoundsBar8BehindBoth() {
        Told.due("those come to 1", Told.hall(TOGETHER + "never many=4 and boats=2 at 1;").rounds(), 3);
        Told.due("however many", Told.hall(TOGETHER + "never many<5 and boats=2 at 1;").rounds(), -1);
        Told.due("those come back to 0", Told.hall(TOGETHER + "never (many=3 or many=4) and boats=2 at 0;").rounds(), -1);
        String both = A + B + BOAT + BOAT;
        Told.due("one alone comes never", Told.hall(both + "never many=1 at 1;").rounds(), 1);
        Told.due("both boats come", Told.hall(both + "never boats=2 at 1;").rounds(), -1);
        Told.due("one boat comes never", Told.hall(both + "never boats=1 at 1;").rounds(), 1);
    }

    private static void terms3AlikeAreOfLikeWeightAndMinutes() {
        Told.due("weights", Told.hall("thing a weight 1;thing b weight 2;thing c weight 1;").alike(0), 5);
        Told.due("minutes", Told.hall("thing a weight 1 rows 1;thing b weight 1 rows 2;thing c weight 1 rows 1;")
                .alike(2), 5);
        Told.due("one rows, one doesn't", Told.hall(A + "thing b weight 1;").alike(0), 1);
    }

    private static void terms3AlikeByEveryGroupThatCanBeAsked() {
        String[] laws = {"a at 0", "a at 1", "a aboard", "a and boats=0 ashore", "a and boats=1 ashore",
            "a and boats=2 ashore", "a and lamp ashore", "a and lamp=0 ashore", "a and lamp and boats=2 at 1",
            "a and lamp aboard", "a and lamp=0 aboard", "a and c", "a and many=1", "a*c and lamp=0 and boats=1 at 0",
            "a*c*d and lamp and boats=0 at 1"};
        for (String law : laws) {
            Told.due("never " + law, Told.hall(FOUR + "never " + law + ";").alike(1) & 3, 2);
        }
        String[] none = {"a and b", "a or b", "a+b", "a=b", "lamp", "lamp=0", "lamp and boats=2 at 1", "boats=0 ashore", "a and boats=3", "a and shore=3", "a and many=0", "a*b*c",
            "a and boats=2 aboard", "a and boats=0 aboard", "not a and not b"};
        for (String law : none) {
            Told.due("never " + law, Told.hall(FOUR + "never " + law + ";").alike(1) & 3, 3);
        }
        Told.due("by the same laws", Told.hall(A + B + "never a;never b;").alike(0), 1);
        Told.due("with either in the place", Told.hall(A + B + "never a and not b;never b and not a;").alike(1), 2);
    }

    // ---- 4

    private static void terms4PlayHas60CrossingsAtMost() {
        FerryHall x = Told.hall(ONE);
        for (int i = 0; i < 60; i++) {
            Told.due("made", x.cross(0, 1 - i % 2, 1), 0);
        }
        Told.due("60", x.count(5), 60);
        Told.due("no more", x.cross(0, 1, 1), 9);
        Told.due("still 60", x.count(5), 60);
        Told.due("minutes", x.play(0), 60);
    }

    private static void terms4CrossingsThatAreBarredArentMade() {
        FerryHall x = Told.hall(ONE + "never a at 1;");
        Told.due("barred", x.cross(0, 1, 1), 8);
        Told.due("none made", x.count(5), 0);
        Told.due("the boat", x.play(4), 0);
        Told.due("the thing", x.play(8), 0);
        Told.due("minutes", x.play(0), 0);
    }

    private static void terms4ANewTextBeginsThePlayAnew() {
        FerryHall x = Told.hall(ONE);
        x.cross(0, 1, 1);
        Told.due("the same text", Told.tell(x, ONE), 0);
        Told.due("none made", x.count(5), 0);
        Told.due("the thing", x.play(8), 0);
        Told.due("minutes", x.play(0), 0);
        Told.due("none to take back", x.back(), -1);
    }

    private static void terms4NoWayIsKeptBehindANewText() {
        FerryHall x = Told.hall(ONE);
        x.fewest();
        Told.due("kept", x.way(-1, 0), 1);
        Told.tell(x, ONE);
        Told.none("way", () -> x.way(-1, 0));
        Told.none("where", () -> x.where(0, 0));
        Told.none("rides", () -> x.rides(0, 0));
    }
}
