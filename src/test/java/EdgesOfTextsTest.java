/**
 * The edges of promises 1 to 7, of the texts of 19, and of the sentences of Terms that they rest on:
 * for each sentence that names one, a method of its own.
 */
public final class EdgesOfTextsTest {
    private static final String EIGHT = "p1;p2;p3;p4;p5;p6;p7;p8";
    /** A text of 76 signs: two PLACES and ten ROADS. */
    private static final String FULL = "p1;p2;rab1-5;rab1-5;rab1-5;rab1-5;rab1-5;rab1-5;rab1-5;rab1-5;rab1-5;rab1-50";

    public static void main(String[] args) {
        newObjectHasNothing();
        newObjectRefuses();
        signsComeFourByFour();
        signsRefusedBeyondEighty();
        signsThatAreNoLetters();
        endKeepsTheFirst();
        endRefused();
        placesAtMostEight();
        roadsAtMostTwelve();
        lettersOfPlaces();
        unlikeLetters();
        lettersOfThisTextAheadOfIt();
        heightsOfPlaces();
        stepsOfRoads();
        heightsOfRoads();
        linesOfFlats();
        emptyFlats();
        flatsThatEndTooEarly();
        flatsOfSeventySix();
        flatsAllOrNothing();
        firstTide();
        numbersOfTheTide();
        roundsOfTheTide();
        tideThatEndsTooEarly();
        tideRefusedStays();
        cartsAtMostFive();
        linesOfCarts();
        emptyCarts();
        cartsAllOrNothing();
        emptyRule();
        numbersOfTheRule();
        bracketsOfTheRule();
        comparisonsOfTheRule();
        orderOfTheRule();
        divisionsOfTheRule();
        minusOfTheRule();
        lettersOfTheRule();
        intsOfTheRule();
        turnsPutToOneToTwenty();
        ruleThatEndsTooEarly();
        ruleOfForty();
        ruleRefusedStays();
        linesOfADay();
        dayThatEndsTooEarly();
        dayOfSixty();
        emptyDay();
        wrongDayDoesNothing();
        textsAreEmptied();
        Check.finish();
    }

    private static RoadsWithTides two() {
        return Check.made("p1;p2;rab1-5", "12*20", "a0");
    }

    /** A text of flats that is refused: its answer, and that nothing of it comes. */
    private static void noFlats(String text, int want) {
        RoadsWithTides x = two();
        String before = Check.seen(x);
        Check.due("flats of " + text, Check.flats(x, text), want);
        Check.same("behind flats of " + text, Check.seen(x), before);
    }

    private static void noCarts(String text, int want) {
        RoadsWithTides x = two();
        String before = Check.seen(x);
        Check.due("carts of " + text, Check.carts(x, text), want);
        Check.same("behind carts of " + text, Check.seen(x), before);
    }

    private static void noTide(String text, int want) {
        RoadsWithTides x = two();
        String before = Check.seen(x);
        Check.due("tide of " + text, Check.tide(x, text), want);
        Check.same("behind tide of " + text, Check.seen(x), before);
        Check.due("level(6) behind tide of " + text, x.level(6), 20);
        Check.due("level(3) behind tide of " + text, x.level(3), 10);
    }

    private static void noRule(String text, int want) {
        RoadsWithTides x = two();
        String before = Check.seen(x);
        Check.due("rule of " + text, Check.rule(x, text), want);
        Check.same("behind rule of " + text, Check.seen(x), before);
    }

    private static void noDay(String text, int want) {
        RoadsWithTides x = two();
        x.level(3);
        String before = Check.seen(x);
        Check.due("day of " + text, Check.day(x, text), want);
        Check.same("behind day of " + text, Check.seen(x), before);
        Check.row("behind day of " + text, x, 1);
    }

    /** TURNS there of a ROAD of 4 STEPS and HEIGHT 30, number 1, from HEIGHT 10 to 50, by a rule. */
    private static int there(String rule) {
        return by(rule, 6);
    }

    private static int back(String rule) {
        return by(rule, 7);
    }

    private static int by(String rule, int what) {
        RoadsWithTides x = Check.made("p10;p50;rab9-9;rab4-30", "12*20", "");
        Check.due("rule of " + rule, Check.rule(x, rule), 0);
        return x.road(1, what);
    }

    private static void newObjectHasNothing() {
        Check.sentence("1: no PLACES, no CARTS");
        RoadsWithTides x = new RoadsWithTides();
        int[] want = {0, 0, 0, 0, 0, 0, 0, 6, 1, 0, 0, 0, 0};
        for (int what = 0; what < want.length; what++) {
            Check.due("count(" + what + ")", x.count(what), want[what]);
        }
        Check.noSuch("place(0, 0)", () -> x.place(0, 0));
        Check.noSuch("road(0, 0)", () -> x.road(0, 0));
        Check.noSuch("cart(0, 0)", () -> x.cart(0, 0));
        Check.noSuch("row(0)", () -> x.row(0));
    }

    private static void newObjectRefuses() {
        Check.sentence("1: no PLACES, no CARTS: what asks for one is refused");
        RoadsWithTides x = new RoadsWithTides();
        int[] got = {x.out(0, 0), x.round(0), x.chain(0, 1), x.load(0, 1), x.storm(0, 0, 1), x.undo(), x.table(0, 1),
            x.comes(0), x.soonest(0, 0), x.latest(0, 1, 0), x.safe(0, 0, 0), x.within(0, 0), x.cutoff(0),
            x.carrier(0, 0), x.arrives(0), x.best(0, 0), x.could(0, 0)};
        for (int i = 0; i < got.length; i++) {
            Check.due("call " + i, got[i], -1);
        }
        Check.due("years", x.years(0, 1), -2);
        Check.due("pass", x.pass(5), 0);
        Check.row("pass", x, 0, 0, 0);
        Check.due("inns", x.inns(0), 0);
        Check.row("inns", x, 0);
        Check.due("no letter of a PLACE", Check.carts(x, "a1"), -1);
        Check.due("no letter of a PLACE", Check.flats(x, "rab1-1"), -2);
    }

    private static void signsComeFourByFour() {
        Check.sentence("2: four signs come, of v the highest byte first: how many it has");
        RoadsWithTides x = new RoadsWithTides();
        for (int many = 4; many <= 80; many += 4) {
            Check.due("sign", x.sign(0), many);
            Check.due("count(12)", x.count(12), many);
        }
        x.end(0);
        x.sign('p' << 24 | '1' << 16 | '2' << 8 | ';');
        x.sign('p' << 24 | '3' << 16 | '4' << 8 | 'x');
        x.end(7);
        Check.due("flats", x.flats(), 2);
        Check.due("place(0, 0)", x.place(0, 0), 12);
        Check.due("place(1, 0)", x.place(1, 0), 34);
    }

    private static void signsRefusedBeyondEighty() {
        Check.sentence("2: refused: there would be more than 80");
        RoadsWithTides x = new RoadsWithTides();
        Check.tell(x, FULL);
        Check.due("76 and 4", x.sign(0), 80);
        for (int many = 80; many >= 77; many--) {
            x.end(many);
            Check.due(many + " and 4", x.sign(';' << 24), -1);
            Check.due("count(12)", x.count(12), many);
        }
        x.end(76);
        Check.due("the refused ones did not come", x.flats(), 12);
        Check.due("76 and 4 once more", x.sign(0), 4);
    }

    private static void signsThatAreNoLetters() {
        Check.sentence("2: signs are bytes, 0 to 255");
        for (int sign : new int[] {0, 1, 127, 128, 176, 240, 254, 255}) {
            String told = String.valueOf((char) sign);
            noFlats(told, -1);
            noFlats("p1" + told, -3);
            noCarts("a1" + told, -3);
            noTide("5*5" + told, -4);
            noRule("s" + told, -2);
            noDay("t1" + told, -3);
        }
    }

    private static void endKeepsTheFirst() {
        Check.sentence("3: THE TEXT has its first n signs alone: true");
        RoadsWithTides x = new RoadsWithTides();
        Check.due("end(0) of none", x.end(0), true);
        Check.tell(x, "p1;p2;p3");
        Check.due("end(8) of 8", x.end(8), true);
        Check.due("count(12)", x.count(12), 8);
        Check.due("end(5) of 8", x.end(5), true);
        Check.due("count(12)", x.count(12), 5);
        Check.due("the first ones are left", x.flats(), 2);
        Check.tell(x, "p1;p2;p3");
        Check.due("end(0) of 8", x.end(0), true);
        Check.due("an empty one tells nothing", x.flats(), 0);
        for (int i = 0; i < 20; i++) {
            x.sign(0);
        }
        Check.due("end(80) of 80", x.end(80), true);
        Check.due("count(12)", x.count(12), 80);
    }

    private static void endRefused() {
        Check.sentence("3: false if it has not so many, or n is below 0");
        RoadsWithTides x = new RoadsWithTides();
        Check.due("end(1) of none", x.end(1), false);
        Check.due("end(-1) of none", x.end(-1), false);
        Check.tell(x, "p1;p2;p3");
        for (int n : new int[] {9, 80, 81, Integer.MAX_VALUE, -1, Integer.MIN_VALUE}) {
            Check.due("end(" + n + ") of 8", x.end(n), false);
            Check.due("count(12)", x.count(12), 8);
        }
        x.end(5);
        Check.due("end(6) of 5, that were 8", x.end(6), false);
        Check.due("nothing was cut off", x.flats(), 2);
    }

    private static void placesAtMostEight() {
        Check.sentence("Terms 1, 4: PLACES at most 8; the first sign of a LINE for which there is no room");
        Check.due("eight", Check.flats(new RoadsWithTides(), EIGHT), 8);
        Check.due("nine", Check.flats(new RoadsWithTides(), EIGHT + ";p9"), -25);
        Check.due("nine, the ninth wrong behind its first sign", Check.flats(new RoadsWithTides(), EIGHT + ";px"), -25);
        RoadsWithTides x = new RoadsWithTides();
        Check.flats(x, "p1;p2;p3;p4;p5;p6;p7");
        Check.due("two more than seven", Check.flats(x, "p8;p9"), -4);
        Check.due("none of the two came", x.count(0), 7);
        Check.due("one more than seven", Check.flats(x, "p8"), 1);
        Check.due("one more than eight", Check.flats(x, "p9"), -1);
        Check.due("count(0)", x.count(0), 8);
        Check.due("a ROAD has room", Check.flats(x, "rah1-1"), 1);
    }

    private static void roadsAtMostTwelve() {
        Check.sentence("Terms 1, 4: ROADS at most 12; the first sign of a LINE for which there is no room");
        RoadsWithTides x = new RoadsWithTides();
        Check.due("ten", Check.flats(x, FULL), 12);
        Check.due("three more", Check.flats(x, "rab2-5;rba3-6;rab4-7"), -15);
        Check.due("none of the three came", x.count(1), 10);
        Check.due("two more", Check.flats(x, "rab2-5;rba3-6"), 2);
        Check.due("count(1)", x.count(1), 12);
        Check.due("a thirteenth", Check.flats(x, "rab1-5"), -1);
        Check.due("a thirteenth, wrong behind its first sign", Check.flats(x, "rxx"), -1);
        Check.due("a PLACE has room", Check.flats(x, "p3"), 1);
        Check.due("the last ROAD: STEPS", x.road(11, 2), 3);
        Check.due("the last ROAD: HEIGHT", x.road(11, 3), 6);
        Check.noSuch("road(12, 0)", () -> x.road(12, 0));
    }

    private static void lettersOfPlaces() {
        Check.sentence("Terms 1, 4: PLACES are written a .. h; a letter of no PLACE: at it");
        RoadsWithTides x = new RoadsWithTides();
        Check.flats(x, EIGHT);
        Check.due("a and h", Check.flats(x, "rah1-1;rha1-1"), 2);
        Check.due("road(0, 0)", x.road(0, 0), 0);
        Check.due("road(0, 1)", x.road(0, 1), 7);
        Check.due("road(1, 0)", x.road(1, 0), 7);
        Check.due("a cart at h", Check.carts(x, "h1"), 1);
        Check.due("cart(0, 0)", x.cart(0, 0), 7);
        Check.due("i first", Check.flats(x, "ria1-1"), -2);
        Check.due("i behind", Check.flats(x, "rai1-1"), -3);
        Check.due("the sign ahead of a first", Check.flats(x, "r`a1-1"), -2);
        Check.due("the sign ahead of a behind", Check.flats(x, "ra`1-1"), -3);
        Check.due("A", Check.flats(x, "rAb1-1"), -2);
        Check.due("B", Check.flats(x, "raB1-1"), -3);
        Check.due("a number", Check.flats(x, "r011-1"), -2);
        Check.due("a cart at i", Check.carts(x, "i1"), -1);
        Check.due("a cart at `", Check.carts(x, "`1"), -1);
        noFlats("rca1-1", -2);
        noFlats("rac1-1", -3);
        noFlats("r1-1", -2);
        noFlats("ra1-1", -3);
        noFlats("rb-1", -3);
        noCarts("c1", -1);
    }

    private static void unlikeLetters() {
        Check.sentence("Terms 1, 4: between two unlike PLACES; a letter like the one ahead: at it");
        noFlats("raa1-1", -3);
        noFlats("rbb1-1", -3);
        noFlats("p3;rcc1-1", -6);
        RoadsWithTides x = new RoadsWithTides();
        Check.flats(x, EIGHT);
        Check.due("h and h", Check.flats(x, "rhh1-1"), -3);
        Check.due("b and a", Check.flats(x, "rba1-1"), 1);
    }

    private static void lettersOfThisTextAheadOfIt() {
        Check.sentence("Terms 1: letters of PLACES that are there (also of this text ahead of it)");
        RoadsWithTides x = two();
        Check.due("ahead of it", Check.flats(x, "p3;rcb2-7"), 2);
        Check.due("road(1, 0)", x.road(1, 0), 2);
        Check.due("road(1, 1)", x.road(1, 1), 1);
        Check.due("of this text alone", Check.flats(new RoadsWithTides(), "p1;p2;rba1-1"), 3);
        noFlats("rac1-1;p3", -3);
        noFlats("rca1-1;p3", -2);
        Check.due("one PLACE ahead, one behind", Check.flats(new RoadsWithTides(), "p1;rab1-1;p2"), -6);
    }

    private static void heightsOfPlaces() {
        Check.sentence("Terms 1: p, HEIGHT (1 or 2 digits), 0 .. 99");
        RoadsWithTides x = new RoadsWithTides();
        Check.due("flats", Check.flats(x, "p0;p9;p10;p99;p00;p07"), 6);
        int[] want = {0, 9, 10, 99, 0, 7};
        for (int p = 0; p < want.length; p++) {
            Check.due("place(" + p + ", 0)", x.place(p, 0), want[p]);
        }
        noFlats("p100", -4);
        noFlats("p000", -4);
        noFlats("px", -2);
        noFlats("p;p1", -2);
        noFlats("p-1", -2);
        noFlats("p/", -2);
        noFlats("p:", -2);
        noFlats("p1/", -3);
        noFlats("p1:", -3);
    }

    private static void stepsOfRoads() {
        Check.sentence("Terms 1: STEPS (a digit, not 0)");
        RoadsWithTides x = two();
        Check.due("1 and 9", Check.flats(x, "rab1-1;rab9-1"), 2);
        Check.due("road(1, 2)", x.road(1, 2), 1);
        Check.due("road(2, 2)", x.road(2, 2), 9);
        noFlats("rab0-1", -4);
        noFlats("rab10-1", -5);
        noFlats("rab01-1", -4);
        noFlats("rab-1", -4);
        noFlats("rabc1-1", -4);
        noFlats("rab/-1", -4);
        noFlats("rab:-1", -4);
        noFlats("rab1+1", -5);
        noFlats("rab1;p1", -5);
    }

    private static void heightsOfRoads() {
        Check.sentence("Terms 1: -, HEIGHT (1 or 2 digits), 0 .. 99");
        RoadsWithTides x = two();
        Check.due("flats", Check.flats(x, "rab1-0;rab1-99;rab1-00;rab1-07;rab1-9"), 5);
        int[] want = {5, 0, 99, 0, 7, 9};
        for (int r = 0; r < want.length; r++) {
            Check.due("road(" + r + ", 3)", x.road(r, 3), want[r]);
        }
        noFlats("rab1-100", -8);
        noFlats("rab1--1", -6);
        noFlats("rab1-x", -6);
        noFlats("rab1-;p1", -6);
        noFlats("rab1-1x", -7);
    }

    private static void linesOfFlats() {
        Check.sentence("Terms 1: LINES with ; between, what they tell comes behind what there is");
        noFlats(";", -1);
        noFlats(";p1", -1);
        noFlats("p1;;p2", -4);
        noFlats("p1,p2", -3);
        noFlats("p1 p2", -3);
        noFlats("p1p2", -3);
        noFlats("P1", -1);
        noFlats("R", -1);
        noFlats("q1", -1);
        noFlats("1", -1);
        RoadsWithTides x = two();
        Check.due("more", Check.flats(x, "rba2-6;p3"), 2);
        Check.due("the PLACE is behind", x.place(2, 0), 3);
        Check.due("those that were stay", x.place(1, 0), 2);
        Check.due("the ROAD is behind", x.road(1, 3), 6);
        Check.due("those that were stay", x.road(0, 3), 5);
    }

    private static void emptyFlats() {
        Check.sentence("4: an empty one: nothing");
        noFlats("", 0);
        Check.due("of nothing", new RoadsWithTides().flats(), 0);
    }

    private static void flatsThatEndTooEarly() {
        Check.sentence("4: its end, if it ends too early");
        noFlats("p", -2);
        noFlats("r", -2);
        noFlats("ra", -3);
        noFlats("rab", -4);
        noFlats("rab1", -5);
        noFlats("rab1-", -6);
        noFlats("p1;", -4);
        noFlats("rab1-1;", -8);
        noFlats("p1;p", -5);
    }

    private static void flatsOfSeventySix() {
        Check.sentence("4: 76, if it has more and the first 76 could go on or end");
        Check.due("76", FULL.length(), 76);
        Check.due("76 that end", Check.flats(new RoadsWithTides(), FULL), 12);
        for (String more : new String[] {";", "x", "0", ";p1", ";p1;", "p", "\0"}) {
            Check.due("the first 76 end, then " + more, Check.flats(new RoadsWithTides(), FULL + more), -77);
        }
        String cut = FULL.substring(0, 75);
        Check.due("75", Check.flats(new RoadsWithTides(), cut), 12);
        Check.due("the first 76 have ; last", Check.flats(new RoadsWithTides(), cut + ";p3"), -77);
        Check.due("76 and no more, ; last", Check.flats(new RoadsWithTides(), cut + ";"), -77);
        for (String last : new String[] {"p", "r", "ra", "rab", "rab1", "rab1-"}) {
            String text = filled(last);
            Check.due("length", text.length(), 76);
            Check.due("the first 76 could go on: " + text, Check.flats(new RoadsWithTides(), text + "1"), -77);
            Check.due("76 and no more: " + text, Check.flats(new RoadsWithTides(), text), -77);
        }
        Check.due("a wrong sign ahead", Check.flats(new RoadsWithTides(), "x" + FULL + "p1;"), -1);
        Check.due("the 76th is wrong", Check.flats(new RoadsWithTides(), cut + "xp1;"), -76);
        Check.due("the 76th is wrong, and no more", Check.flats(new RoadsWithTides(), cut + "x"), -76);
        Check.due("80", Check.flats(new RoadsWithTides(), FULL + ";p12"), -77);
    }

    /** 76 signs that could go on, the last of them these. */
    private static String filled(String last) {
        StringBuilder text = new StringBuilder("p1;p2");
        while (text.length() + 9 + last.length() <= 76) {
            text.append(";rab1-5");
        }
        // what is missing yet is made up by HEIGHTS of two digits
        for (int at = 4; text.length() + 1 + last.length() < 76; at += 8) {
            text.insert(at == 4 ? 1 : at, '0');
        }
        return text.append(';').append(last).toString();
    }

    private static void flatsAllOrNothing() {
        Check.sentence("4: nothing of it comes, if a LINE can't");
        noFlats("p3;p4;x", -7);
        noFlats("rab1-1;rba2-2;raa1-1", -17);
        noFlats("p9;rac9-9;p", -12);
        RoadsWithTides x = two();
        Check.flats(x, "p9;rac9-9;p");
        Check.due("a right one behind it", Check.flats(x, "p3;rcb2-7"), 2);
        Check.due("place(2, 0)", x.place(2, 0), 3);
        Check.due("road(1, 0)", x.road(1, 0), 2);
        Check.due("road(1, 1)", x.road(1, 1), 1);
        Check.due("road(1, 2)", x.road(1, 2), 2);
        Check.due("road(1, 3)", x.road(1, 3), 7);
    }

    private static void firstTide() {
        Check.sentence("Terms 1: at first: 12*20");
        RoadsWithTides x = new RoadsWithTides();
        int[] want = {0, 3, 6, 10, 13, 16, 20, 16, 13, 10, 6, 3, 0, 3};
        for (int t = 0; t < want.length; t++) {
            Check.due("level(" + t + ")", x.level(t), want[t]);
        }
        Check.due("period()", x.period(), 12);
    }

    private static void numbersOfTheTide() {
        Check.sentence("Terms 1, 5: how long 2 .. 60, how high 0 .. 60, how far on 0 .. 59; not so: at the last digit");
        for (String right : new String[] {"2*0", "60*60/59", "2*60/0", "60*0/00", "02*07/09", "9*9/9", "10*10/10"}) {
            Check.due("tide of " + right, Check.tide(new RoadsWithTides(), right), 1);
        }
        noTide("0*5", -1);
        noTide("1*5", -1);
        noTide("00*5", -2);
        noTide("01*5", -2);
        noTide("61*5", -2);
        noTide("99*5", -2);
        noTide("5*61", -4);
        noTide("5*99", -4);
        noTide("15*61", -5);
        noTide("5*5/60", -6);
        noTide("5*5/99", -6);
        noTide("5*5+1*5", -5);
        noTide("5*5+61*5", -6);
        noTide("5*5+5*61", -8);
        noTide("5*5+5*5/60", -10);
        noTide("100*5", -3);
        noTide("002*5", -2);
        noTide("5*100", -5);
        noTide("5*005", -5);
        noTide("5*5/100", -7);
        noTide("5*5/000", -7);
        noTide("-5*5", -1);
        noTide("5*-5", -3);
        noTide("5*5/-1", -5);
        noTide("1", -1);
        noTide("61", -2);
    }

    private static void roundsOfTheTide() {
        Check.sentence("Terms 1, 5: 1 to 3 ROUNDS with + between; the + of a fourth ROUND");
        RoadsWithTides x = new RoadsWithTides();
        Check.due("one", Check.tide(x, "5*5"), 1);
        Check.due("two", Check.tide(x, "5*5+6*6/1"), 2);
        Check.due("three", Check.tide(x, "60*60/59+60*60/59+60*60/59"), 3);
        Check.due("count(8)", x.count(8), 3);
        Check.due("as high as can be", x.level(31), 180);
        Check.due("one again", Check.tide(x, "2*8"), 1);
        Check.due("nothing of the three is left", x.level(1), 8);
        noTide("5*5+5*5+5*5+5*5", -12);
        noTide("5*5+5*5+5*5/5+", -14);
        noTide("5*5+5*5+5*5+", -12);
        noTide("5*5+5*5+5*5;", -12);
        noTide("5*5;5*5", -4);
        noTide("5*5-5*5", -4);
        noTide("5*5/5/5", -6);
        noTide("5+5", -2);
        noTide("5/5", -2);
        noTide("+5*5", -1);
        noTide("5*5++5*5", -5);
    }

    private static void tideThatEndsTooEarly() {
        Check.sentence("5: its end, if it ends too early");
        noTide("", -1);
        noTide("5", -2);
        noTide("55", -3);
        noTide("5*", -3);
        noTide("5*5/", -5);
        noTide("5*5+", -5);
        noTide("5*5+5", -6);
        noTide("5*5+5*", -7);
        noTide("5*5+5*5+", -9);
        noTide("5*5/5+", -7);
    }

    private static void tideRefusedStays() {
        Check.sentence("Terms 2: refused calls change nothing: THE TIDE");
        RoadsWithTides x = new RoadsWithTides();
        Check.tide(x, "4*8/1+2*1");
        Check.due("a wrong second ROUND", Check.tide(x, "60*60/7+5*61"), -12);
        Check.due("level(0)", x.level(0), 4);
        Check.due("level(1)", x.level(1), 9);
        Check.due("count(8)", x.count(8), 2);
    }

    private static void cartsAtMostFive() {
        Check.sentence("Terms 1, 6: CARTS at most 5; the first sign of a LINE for which there is no room");
        RoadsWithTides x = Check.made("p1;p2", "12*20", "");
        Check.due("six", Check.carts(x, "a1;a1;a1;a1;a1;a1"), -16);
        Check.due("six, with *", Check.carts(x, "a1*;a1*;a1*;a1*;a1*;a1*"), -21);
        Check.due("count(2)", x.count(2), 0);
        Check.due("five", Check.carts(x, "a1*;a2*;a3*;a4*;b5*"), 5);
        Check.due("count(2)", x.count(2), 5);
        Check.due("one more than five", Check.carts(x, "a1"), -1);
        Check.due("one more than five, no letter of a PLACE", Check.carts(x, "x"), -1);
        Check.due("the last is there", x.cart(4, 4), 5);
        Check.due("far too long: the sixth", Check.carts(Check.made("p1", "12*20", ""),
                "a1;a1;a1;a1;a1;a1;a1;a1;a1;a1;a1;a1;a1;a1;a1;a1"), -16);
        RoadsWithTides y = Check.made("p1;p2", "12*20", "a1;a1;a1;a1");
        Check.due("two more than four", Check.carts(y, "b1;b1"), -4);
        Check.due("none of the two came", y.count(2), 4);
        Check.due("one more than four", Check.carts(y, "b1"), 1);
    }

    private static void linesOfCarts() {
        Check.sentence("Terms 1, 6: a letter of a PLACE, a digit (LOAD), perhaps * (CHAINED)");
        RoadsWithTides x = two();
        Check.due("carts", Check.carts(x, "a0;b9*"), 2);
        Check.due("LOAD 0", x.cart(1, 4), 0);
        Check.due("not CHAINED", x.cart(1, 5), 0);
        Check.due("LOAD 9", x.cart(2, 4), 9);
        Check.due("CHAINED", x.cart(2, 5), 1);
        noCarts("a", -2);
        noCarts("ax", -2);
        noCarts("a*", -2);
        noCarts("a-1", -2);
        noCarts("a10", -3);
        noCarts("a1**", -4);
        noCarts("a1;", -4);
        noCarts("a1*;", -5);
        noCarts("a1;;a1", -4);
        noCarts(";", -1);
        noCarts("a1b1", -3);
        noCarts("a1*b1", -4);
        noCarts("1", -1);
        noCarts("A1", -1);
    }

    private static void emptyCarts() {
        Check.sentence("6: an empty one: nothing");
        noCarts("", 0);
        Check.due("of nothing", new RoadsWithTides().carts(), 0);
    }

    private static void cartsAllOrNothing() {
        Check.sentence("6: nothing of it comes, if a LINE can't (as flats())");
        noCarts("b9*;b8;c7", -8);
        RoadsWithTides x = two();
        Check.carts(x, "b9*;b8*;c7");
        Check.due("a right one behind it", Check.carts(x, "a1;b2"), 2);
        Check.due("count(2)", x.count(2), 3);
        Check.due("LOAD", x.cart(1, 4), 1);
        Check.due("not CHAINED", x.cart(1, 5), 0);
        Check.due("not CHAINED", x.cart(2, 5), 0);
    }

    private static void emptyRule() {
        Check.sentence("Terms 1, 7: none (an empty one): s+(u>0)*u/20");
        int[] climbs = {0, 19, 20, 39, 40, 99};
        int[] takes = {3, 3, 4, 4, 5, 7};
        for (int i = 0; i < climbs.length; i++) {
            RoadsWithTides x = Check.made("p0;p" + climbs[i] + ";rab3-1", "12*20", "");
            Check.due("up " + climbs[i], x.road(0, 6), takes[i]);
            Check.due("down " + climbs[i], x.road(0, 7), 3);
            Check.rule(x, "17");
            Check.due("by another rule", x.road(0, 6), 17);
            Check.due("none: 0", Check.rule(x, ""), 0);
            Check.due("up " + climbs[i] + " by none again", x.road(0, 6), takes[i]);
            Check.due("down " + climbs[i] + " by none again", x.road(0, 7), 3);
            Check.rule(x, "s+(u>0)*u/20");
            Check.due("up " + climbs[i] + " by the same, told", x.road(0, 6), takes[i]);
            Check.due("down " + climbs[i] + " by the same, told", x.road(0, 7), 3);
        }
    }

    private static void numbersOfTheRule() {
        Check.sentence("Terms 1: a NUMBER of 1 to 3 digits");
        Check.due("7", there("7"), 7);
        Check.due("007", there("007"), 7);
        Check.due("999-990", there("999-990"), 9);
        noRule("1000", -4);
        noRule("0000", -4);
        noRule("s+1234", -6);
    }

    private static void bracketsOfTheRule() {
        Check.sentence("Terms 1: an EXPRESSION in ( ) (at most 4 in one another)");
        Check.due("four", there("((((7))))"), 7);
        Check.due("four, and four again", there("((((7))))+((((2))))"), 9);
        Check.due("four on the way", there("(1+(1+(1+(1+1))))+(1)"), 6);
        noRule("(((((7)))))", -5);
        noRule("(1+(1+(1+(1+(1)))))", -13);
        noRule("((((7))))+(((((7)))))", -15);
        noRule("()", -2);
        noRule("(", -2);
        noRule("(1", -3);
        noRule("(1+", -4);
        noRule("1)", -2);
        noRule("(1))", -4);
        noRule(")", -1);
        noRule("(1)(1)", -4);
        noRule("2(1)", -2);
        noRule("(1)2", -4);
    }

    private static void comparisonsOfTheRule() {
        Check.sentence("Terms 1: < > = bind least (two; 1 or 0; not one behind the other)");
        String[] rules = {"(1<2)*5+2", "(2<2)*5+2", "(3<2)*5+2", "(1>2)*5+2", "(2>2)*5+2", "(3>2)*5+2", "(1=2)*5+2",
            "(2=2)*5+2", "(1+1<2*2)*5+2", "(1<1+1)*5+2", "(4/2=1+1)*5+2", "((1<2)<3)*5+2", "(1<(3<2))*5+2",
            "(-1<0)*5+2", "(1<2)*5+(3>2)*6", "((1<2)<(2<1))*9+((2>1)>(1>2))*5",
            "(0>-1)*5+2", "(-1=-1)*5+2"};
        int[] takes = {7, 2, 2, 2, 2, 7, 2, 7, 7, 7, 7, 7, 2, 7, 11, 5, 7, 7};
        for (int i = 0; i < rules.length; i++) {
            Check.due(rules[i], there(rules[i]), takes[i]);
        }
        noRule("1<2<3", -4);
        noRule("1<2>3", -4);
        noRule("1=2=3", -4);
        noRule("1<2+3=4", -6);
        noRule("(1<2=3)", -5);
        noRule("1<(2=3)>4", -8);
        noRule("(1<2)=3>4", -8);
        noRule("1<=2", -3);
        noRule("<1", -1);
    }

    private static void orderOfTheRule() {
        Check.sentence("Terms 1: + - (from the left), then * / (from the left)");
        String[] rules = {"9-3-2", "9-3+2", "9-(3-2)", "2+3*4", "2*3+4", "(2+3)*4", "20-2*3", "60/6/2", "60/(6/2)",
            "3*7/2", "7/2*3", "8/3*3", "9-4/2", "1+2<3*9"};
        int[] takes = {4, 8, 8, 14, 10, 20, 14, 5, 20, 10, 9, 6, 7, 1};
        for (int i = 0; i < rules.length; i++) {
            Check.due(rules[i], there(rules[i]), takes[i]);
        }
        noRule("1+*2", -3);
        noRule("1*/2", -3);
        noRule("*1", -1);
        noRule("+1", -1);
        noRule("1 +1", -2);
        noRule("1%2", -2);
    }

    private static void divisionsOfTheRule() {
        Check.sentence("Terms 1: * / (by 0: 0; cut to 0)");
        String[] rules = {"5/0+3", "0/0+3", "-5/0+3", "5/(1-1)+3", "7/2+9", "-7/2+9", "7/-2+9", "-7/-2+9", "-1/2+9", "1/2+9",
            "19/20+9", "-19/20+9", "s/(r-1)+2"};
        int[] takes = {3, 3, 3, 3, 12, 6, 6, 12, 9, 9, 9, 9, 2};
        for (int i = 0; i < rules.length; i++) {
            Check.due(rules[i], there(rules[i]), takes[i]);
        }
    }

    private static void minusOfTheRule() {
        Check.sentence("Terms 1: - ahead of a thing (any many)");
        String[] rules = {"--5", "---5+9", "9--5", "9---5", "3*-2+9", "-3*-2", "-(2-7)", "--s", "-s+9", "9+-2", "12/-4+9",
            "9---------------------------------5"};
        int[] takes = {5, 4, 14, 4, 3, 6, 5, 4, 5, 7, 6, 4};
        for (int i = 0; i < rules.length; i++) {
            Check.due(rules[i], there(rules[i]), takes[i]);
        }
        noRule("-", -2);
        noRule("--", -3);
        noRule("5-", -3);
        noRule("-+5", -2);
        noRule("(-)", -3);
    }

    private static void lettersOfTheRule() {
        Check.sentence("Terms 1: s, u, h, l, r, a");
        String[] rules = {"s", "u/4", "u/10+9", "h/2", "l+7", "r", "r+8", "a/5"};
        int[] up = {4, 10, 13, 15, 7, 1, 9, 2};
        int[] down = {4, 1, 5, 15, 7, 1, 9, 10};
        for (int i = 0; i < rules.length; i++) {
            Check.due(rules[i] + " there", there(rules[i]), up[i]);
            Check.due(rules[i] + " back", back(rules[i]), down[i]);
        }
        for (String other : new String[] {"b", "t", "S", "z", "x", "q", "`"}) {
            noRule(other, -1);
            noRule("s+" + other, -3);
        }
        noRule("su", -2);
        noRule("2s", -2);
        noRule("s2", -2);
    }

    private static void intsOfTheRule() {
        Check.sentence("Terms 1: as ints (wrap-around)");
        // 512 * 512 * 512 * 16 is 2^31, so it is the least int; twice of it is 0
        Check.due("the least int", there("512*512*512*16+0"), 1);
        Check.due("the least int less 1", there("512*512*512*16-1"), 20);
        Check.due("twice of it", there("512*512*512*32+7"), 7);
        Check.due("less the least int is it", there("-(512*512*512*16)"), 1);
        Check.due("the least int by -1 is it", there("512*512*512*16/-1"), 1);
        Check.due("the greatest and 1", there("(512*512*512*16-1)+1"), 1);
        Check.due("it is below 0", there("(512*512*512*16<0)*5+2"), 7);
    }

    private static void turnsPutToOneToTwenty() {
        Check.sentence("Terms 1: put to 1 .. 20: TURNS it takes");
        String[] rules = {"0", "1", "2", "19", "20", "21", "999", "-1", "-999", "1-1"};
        int[] takes = {1, 1, 2, 19, 20, 20, 20, 1, 1, 1};
        for (int i = 0; i < rules.length; i++) {
            Check.due(rules[i], there(rules[i]), takes[i]);
            RoadsWithTides x = Check.made("p1;p1;rab9-0", "12*20", "a0");
            Check.rule(x, rules[i]);
            Check.due("out by " + rules[i], x.out(0, 0), takes[i]);
        }
    }

    private static void ruleThatEndsTooEarly() {
        Check.sentence("7: its end, if it ends too early");
        noRule("s+", -3);
        noRule("s<", -3);
        noRule("s*", -3);
        noRule("(s", -3);
        noRule("((s)", -5);
        noRule("s+(", -4);
        noRule("s+-", -4);
    }

    private static void ruleOfForty() {
        Check.sentence("7: 40 signs: 40, if it has more and the first 40 could go on or end");
        String odd = "1+1+1+1+1+1+1+1+1+1+1+1+1+1+1+1+1+1+1+0";
        Check.due("39", odd.length(), 39);
        Check.due("39 signs", there(odd), 19);
        Check.due("40 signs", there("-" + odd), 17);
        Check.due("40 signs, all of them one number less", there("-" + odd.substring(0, 38) + "9"), 20);
        noRule("-" + odd + "+1", -41);
        noRule("-" + odd + "x", -41);
        noRule("-" + odd + "5", -41);
        noRule("-" + odd + ")", -41);
        noRule(odd + "+", -41);
        noRule(odd + "+1", -41);
        noRule(odd + "+x", -41);
        noRule(odd + ")", -40);
        noRule(odd + ")+1", -40);
        noRule("(" + odd, -41);
        noRule("(" + odd + ")", -41);
        noRule("x" + odd + "+1", -1);
    }

    private static void ruleRefusedStays() {
        Check.sentence("Terms 2: refused calls change nothing: THE RULE");
        RoadsWithTides x = Check.made("p1;p1;rab3-0", "12*20", "");
        Check.rule(x, "s+8");
        Check.due("a wrong one", Check.rule(x, "7*(2+3"), -7);
        Check.due("TURNS", x.road(0, 6), 11);
        Check.due("a wrong one", Check.rule(x, "9x"), -2);
        Check.due("TURNS", x.road(0, 6), 11);
        for (String wrong : new String[] {"9*(2-(3", "9-", "-", "s+-", "-x", "9-x", "9*-x", "((((1<2", "9-2)", "1<2<3", "s+-(", "(((((1"}) {
            Check.due("a wrong one", Check.rule(x, wrong) < 0, true);
            Check.due("a right one behind " + wrong, Check.rule(x, "((((2))))+(1<2)"), 0);
            Check.due("TURNS", x.road(0, 6), 3);
            Check.due("a bracket too many behind " + wrong, Check.rule(x, "2)"), -2);
            Check.due("a bracket too few behind " + wrong, Check.rule(x, "(2"), -3);
            Check.due("a comparison", Check.rule(x, "1<2"), 0);
            Check.due("TURNS", x.road(0, 6), 1);
        }
    }

    private static void linesOfADay() {
        Check.sentence("19: o, t, b, c, l and their digits; the sign that can't stand there");
        noDay("x", -1);
        noDay("T1", -1);
        noDay("1", -1);
        noDay(";", -1);
        noDay("t1;;t1", -4);
        noDay("t1,t1", -3);
        noDay("t1t1", -3);
        noDay("oa0", -2);
        noDay("o0a", -3);
        noDay("o0;t1", -3);
        noDay("o0000", -5);
        noDay("o00x", -4);
        noDay("tx", -2);
        noDay("t-1", -2);
        noDay("t100", -4);
        noDay("t000", -4);
        noDay("bx", -2);
        noDay("b00", -3);
        noDay("cx", -2);
        noDay("c00", -3);
        noDay("lx", -2);
        noDay("l0x", -3);
        noDay("l000", -4);
        noDay("l010", -4);
    }

    private static void dayThatEndsTooEarly() {
        Check.sentence("19: its end, if it ends too early");
        noDay("o", -2);
        noDay("o0", -3);
        noDay("t", -2);
        noDay("b", -2);
        noDay("c", -2);
        noDay("l", -2);
        noDay("l0", -3);
        noDay("t1;", -4);
        noDay("o00;", -5);
        noDay("o012;", -6);
    }

    private static void dayOfSixty() {
        Check.sentence("19: 60 signs: 60, if it has more and the first 60 could go on or end");
        String day = "t1;t1;t1;t1;t1;t1;t1;t1;t1;t1;t1;t1;t1;t1;t1;t1;t1;t1;t1;t10";
        Check.due("60", day.length(), 60);
        RoadsWithTides x = new RoadsWithTides();
        Check.due("60 signs", Check.day(x, day), 20);
        Check.due("NOW", x.count(3), 29);
        noDay(day + ";", -61);
        noDay(day + "x", -61);
        noDay(day + ";t1", -61);
        noDay(day.substring(0, 59) + ";", -61);
        noDay(day.substring(0, 59) + ";t1", -61);
        noDay(day.substring(0, 57) + "o00x", -61);
        noDay(day.substring(0, 57) + "t1;", -61);
        noDay(day.substring(0, 57) + "t1;t", -61);
        noDay(day.substring(0, 57) + "c1t1", -60);
        noDay(day.substring(0, 59) + "x", -60);
        noDay("x" + day + "t1", -1);
    }

    private static void emptyDay() {
        Check.sentence("19: an empty one: no ACTS");
        RoadsWithTides x = two();
        x.ebb();
        String before = Check.seen(x);
        Check.due("day", x.day(), 0);
        Check.row("day", x, 0, 0);
        Check.same("behind it", Check.seen(x), before);
    }

    private static void wrongDayDoesNothing() {
        Check.sentence("19: nothing is done then");
        noDay("t5;x", -4);
        noDay("t5;t5;t5;", -10);
        noDay("l07;c0;t3;o", -12);
        noDay("t9;l0", -6);
        RoadsWithTides x = two();
        for (String wrong : new String[] {"l0", "o0", "t", "l07;l0", "t1;t1;t1;o0", "x"}) {
            Check.due("a wrong one", Check.day(x, wrong) < 0, true);
            Check.due("a right one behind " + wrong, Check.day(x, "c0;t1;c0"), 3);
        }
        Check.due("NOW", x.count(3), 6);
    }

    private static void textsAreEmptied() {
        Check.sentence("Terms 2: THE TEXT, which a call that reads it empties");
        String[] right = {"p1", "5*5", "a1", "s", "t1"};
        for (int call = 0; call < 5; call++) {
            for (String text : new String[] {right[call], "?", ""}) {
                RoadsWithTides x = two();
                Check.tell(x, text);
                int answer = call == 0 ? x.flats() : call == 1 ? x.tide() : call == 2 ? x.carts() : call == 3 ? x.rule() : x.day();
                Check.due("call " + call + " of " + text + " is refused", answer < 0, text.equals("?") || call == 1 && text.isEmpty());
                Check.due("call " + call + " of " + text + ": signs left", x.count(12), 0);
                Check.due("the next sign is the first", x.sign(0), 4);
            }
        }
        RoadsWithTides y = two();
        Check.tell(y, "p1;p");
        y.pass(1);
        y.undo();
        y.keep(0);
        y.again(0);
        y.level(0);
        y.patience(3);
        y.out(9, 9);
        Check.due("other calls leave it", y.count(12), 4);
    }
}
