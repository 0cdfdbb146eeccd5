/**
 * The edges of promises 13 to 20 (what carts do, storms, TURNS, days, undoing) and of what Terms tell of
 * TURNS: for each sentence that names one, a method of its own.
 */
public final class EdgesOfTurnsTest {
    private static final String FLATS = "p10;p50;p20;rab2-10;rbc3-5;rac9-15";
    private static final int[] FAR_OUT = {-1, -2, Integer.MIN_VALUE, Integer.MAX_VALUE};

    public static void main(String[] args) {
        levelOfARound();
        levelOnAtTimeZero();
        levelsAddedUp();
        turnOfACartThere();
        turnOfACartCut();
        cutOneBehindTheOther();
        patienceOrMore();
        chainedIsNotWrecked();
        wreckedStaysForEver();
        outNoneSuch();
        outNoneSuchFirst();
        outOnARoad();
        outEndsElsewhere();
        outNotThere();
        outThereAtNowAlone();
        outByLoad();
        roundOneAtLeast();
        roundByLoad();
        roundKeepsCut();
        roundRefused();
        roundArrives();
        chainRefused();
        chainWrecked();
        chainAsItWas();
        loadRefused();
        loadOnARoad();
        loadAtItsEnds();
        stormLikeOnes();
        stormNoneSuch();
        stormUnderACart();
        stormNoneFirst();
        stormAnswersWhereItWas();
        stormTurnsOtherWay();
        passRefused();
        passZero();
        passNinetyNine();
        passTellsWhoCame();
        passTellsWhoIsCut();
        passTellsWhoWasWrecked();
        dayTillOneCant();
        dayActsThatCant();
        dayCountsEachTime();
        dayChains();
        dayNumbersOfTwoDigits();
        undoNone();
        undoRefusedOnesAreNone();
        undoPassOfOneAndMore();
        undoDayOfOneAct();
        undoOfEach();
        undoTwelve();
        undoHowManyAreLeft();
        undoLeavesTheRest();
        undoForgottenByFlats();
        undoForgottenByCarts();
        undoForgottenByAgain();
        undoNotForgottenByEmptyOnes();
        undoNotForgottenByRefusedOnes();
        Check.finish();
    }

    private static RoadsWithTides three() {
        return Check.made(FLATS, "12*20", "a0;b5*;a2");
    }

    /** Levels 0, 3, 6, 10, .. of 12*20; a ROAD of nine STEPS that is THERE at 10 or more: at 3 .. 9, 15 .. 21, ... */
    private static RoadsWithTides longRoad(String carts) {
        return Check.made("p0;p0;rab9-10", "12*20", carts);
    }

    private static void levels(String tide, int... want) {
        RoadsWithTides x = new RoadsWithTides();
        Check.tide(x, tide);
        for (int t = 0; t < want.length; t++) {
            Check.due(tide + ": level(" + t + ")", x.level(t), want[t]);
        }
    }

    private static void levelOfARound() {
        Check.sentence("Terms 1: h times 2 x by p (cut) if 2 x is no more than p, else h times 2 (p less x) by p (cut)");
        levels("2*9", 0, 9, 0, 9);
        levels("3*9", 0, 6, 6, 0, 6, 6, 0);
        levels("3*10", 0, 6, 6, 0);
        levels("4*9", 0, 4, 9, 4, 0);
        levels("5*9", 0, 3, 7, 7, 3, 0);
        levels("7*60", 0, 17, 34, 51, 51, 34, 17, 0);
        levels("5*0", 0, 0, 0, 0, 0, 0);
        levels("60*1", 0, 0, 0);
        RoadsWithTides x = new RoadsWithTides();
        Check.tide(x, "60*60");
        Check.due("level(29)", x.level(29), 58);
        Check.due("level(30)", x.level(30), 60);
        Check.due("level(31)", x.level(31), 58);
        Check.due("level(59)", x.level(59), 2);
        Check.due("level(60)", x.level(60), 0);
    }

    private static void levelOnAtTimeZero() {
        Check.sentence("Terms 1: x is the rest of t and s by p");
        levels("5*10/1", 4, 8, 8, 4, 0, 4);
        levels("5*10/4", 4, 0, 4, 8, 8, 4);
        levels("5*10/5", 0, 4, 8, 8, 4, 0);
        levels("5*10/59", 4, 0, 4, 8, 8, 4);
        levels("2*7/59", 7, 0, 7);
        RoadsWithTides x = new RoadsWithTides();
        Check.tide(x, "60*30/59");
        Check.due("level(0)", x.level(0), 1);
        Check.due("level(1)", x.level(1), 0);
        Check.due("level(31)", x.level(31), 30);
        x.pass(61);
        Check.due("level(0) at 61", x.level(0), 0);
    }

    private static void levelsAddedUp() {
        Check.sentence("Terms 1: LEVEL: of each ROUND .. (cut); all added up");
        levels("3*2+3*2", 0, 2, 2, 0);
        levels("3*1+3*1+3*1", 0, 0, 0, 0);
        levels("2*1+3*3+4*5", 0, 5, 7, 3, 2, 5, 5);
    }

    private static void turnOfACartThere() {
        Check.sentence("Terms 1: if the ROAD is THERE at NOW: LEFT 1 less; at 0 it is at its PLACE");
        RoadsWithTides x = Check.made("p0;p0;rab2-10", "12*20", "a0");
        x.pass(8);
        x.out(0, 0);
        Check.due("one TURN", x.pass(1), 0);
        Check.due("LEFT", x.cart(0, 3), 1);
        Check.due("another, at 9, the last time it is THERE", x.pass(1), 1);
        Check.due("at its PLACE", x.cart(0, 0), 1);
        Check.due("NOW", x.count(3), 10);
        Check.due("the ROAD is not THERE now", x.road(0, 4), 0);
        x.undo();
        x.undo();
        x.undo();
        x.pass(1);
        x.out(0, 0);
        Check.due("two TURNS from 9 on", x.pass(2), 0);
        Check.due("LEFT", x.cart(0, 3), 1);
        Check.due("CUT", x.cart(0, 6), 1);
    }

    private static void turnOfACartCut() {
        Check.sentence("Terms 1: CUT is 0 (if the ROAD is THERE); else CUT is 1 more");
        RoadsWithTides x = longRoad("a0");
        x.pass(9);
        x.out(0, 0);
        x.pass(1);
        Check.due("CUT at 10", x.cart(0, 6), 0);
        for (int cut = 1; cut <= 5; cut++) {
            x.pass(1);
            Check.due("CUT", x.cart(0, 6), cut);
            Check.due("LEFT", x.cart(0, 3), 8);
        }
        x.pass(1);
        Check.due("CUT, when the ROAD has come", x.cart(0, 6), 0);
        Check.due("LEFT", x.cart(0, 3), 7);
    }

    private static void cutOneBehindTheOther() {
        Check.sentence("Terms 1: CUT (for how many TURNS one behind the other, now)");
        RoadsWithTides x = longRoad("a0");
        Check.rule(x, "20");
        x.pass(9);
        x.out(0, 0);
        x.pass(34);
        Check.due("CUT 5 three times, PATIENCE 6: not WRECKED", x.cart(0, 7), 0);
        Check.due("LEFT: 1, 7, 7, 4 are done", x.cart(0, 3), 1);
        x.pass(1);
        Check.due("PLACE", x.cart(0, 0), 1);
    }

    private static void patienceOrMore() {
        Check.sentence("Terms 1: if it is not CHAINED and CUT is PATIENCE (1 .. 20) or more: it is WRECKED");
        RoadsWithTides x = longRoad("a0");
        x.pass(9);
        x.out(0, 0);
        x.patience(5);
        x.pass(5);
        Check.due("CUT 4, PATIENCE 5", x.cart(0, 7), 0);
        x.pass(1);
        Check.due("CUT 5, PATIENCE 5", x.cart(0, 7), 1);
        Check.due("CUT", x.cart(0, 6), 5);
        RoadsWithTides y = longRoad("a0");
        y.pass(9);
        y.out(0, 0);
        y.pass(5);
        y.patience(1);
        Check.due("PATIENCE alone wrecks none", y.cart(0, 7), 0);
        y.pass(1);
        Check.due("CUT 5, PATIENCE 1", y.cart(0, 7), 1);
        RoadsWithTides z = longRoad("a0");
        z.pass(9);
        z.out(0, 0);
        z.patience(1);
        z.pass(1);
        Check.due("CUT 0, PATIENCE 1", z.cart(0, 7), 0);
        z.pass(1);
        Check.due("CUT 1, PATIENCE 1", z.cart(0, 7), 1);
        RoadsWithTides w = Check.made("p0;p0;rab9-10", "60*11", "a0");
        w.patience(20);
        w.pass(28);
        w.out(0, 0);
        w.pass(25);
        Check.due("CUT 20: THERE at 28 .. 32, not at 33 .. 52", w.cart(0, 6), 20);
        Check.due("PATIENCE 20", w.cart(0, 7), 1);
        w.undo();
        w.pass(24);
        Check.due("CUT 19", w.cart(0, 6), 19);
        Check.due("PATIENCE 20", w.cart(0, 7), 0);
    }

    private static void chainedIsNotWrecked() {
        Check.sentence("Terms 1: if it is not CHAINED");
        RoadsWithTides x = Check.made("p0;p0;rab9-10", "60*11", "a0*");
        x.patience(1);
        x.pass(32);
        x.out(0, 0);
        x.pass(56);
        Check.due("CUT", x.cart(0, 6), 55);
        Check.due("not WRECKED", x.cart(0, 7), 0);
        x.pass(5);
        Check.due("CUT", x.cart(0, 6), 0);
        Check.due("LEFT", x.cart(0, 3), 3);
    }

    private static void wreckedStaysForEver() {
        Check.sentence("Terms 1: it is WRECKED (it stays on the ROAD for ever)");
        RoadsWithTides x = longRoad("a0");
        x.patience(2);
        x.pass(9);
        x.out(0, 0);
        x.pass(3);
        Check.due("WRECKED", x.cart(0, 7), 1);
        x.sheet(3, 0, 0, 0);
        x.patience(20);
        Check.due("the ROAD is THERE for ever, none comes", x.pass(99), 0);
        Check.row("pass", x, 0, 1, 0);
        Check.due("the ROAD", x.cart(0, 1), 0);
        Check.due("LEFT", x.cart(0, 3), 8);
        Check.due("CUT", x.cart(0, 6), 2);
        Check.due("count(5)", x.count(5), 1);
    }

    private static void outNoneSuch() {
        Check.sentence("13: NONE: none such");
        RoadsWithTides x = three();
        x.pass(6);
        Check.due("out(3, 0)", x.out(3, 0), -1);
        Check.due("out(0, 3)", x.out(0, 3), -1);
        for (int one : FAR_OUT) {
            Check.due("out(" + one + ", 0)", x.out(one, 0), -1);
            Check.due("out(0, " + one + ")", x.out(0, one), -1);
        }
        Check.due("the last ones", x.out(2, 2), 9);
    }

    private static void outNoneSuchFirst() {
        Check.sentence("13: asked in this order, that (NONE) first");
        RoadsWithTides x = three();
        x.pass(6);
        x.out(0, 0);
        Check.due("on a ROAD, no such ROAD", x.out(0, 3), -1);
        Check.due("on a ROAD, no such ROAD", x.out(0, -1), -1);
        Check.due("at a PLACE, no such ROAD", x.out(2, 12), -1);
    }

    private static void outOnARoad() {
        Check.sentence("13: -2: it is on a ROAD (ahead of -3 and -4)");
        RoadsWithTides x = three();
        x.patience(1);
        x.pass(9);
        x.out(0, 0);
        Check.due("by the same", x.out(0, 0), -2);
        Check.due("by one that does not end there", x.out(0, 1), -2);
        x.pass(1);
        Check.due("by one that is not THERE", x.out(0, 2), -2);
        x.pass(1);
        Check.due("WRECKED", x.cart(0, 7), 1);
        Check.due("WRECKED, it is on a ROAD", x.out(0, 0), -2);
    }

    private static void outEndsElsewhere() {
        Check.sentence("13: -3: the ROAD does not end there (ahead of -4)");
        RoadsWithTides x = three();
        Check.due("it is not THERE either", x.out(0, 1), -3);
        x.pass(6);
        Check.due("it is THERE", x.out(0, 1), -3);
        Check.due("it is THERE", x.out(1, 2), -3);
        x.storm(1, 0, 2);
        Check.due("it was thrown there", x.out(0, 1) > 0, true);
        Check.due("it was thrown away from there", x.out(1, 1), -3);
    }

    private static void outNotThere() {
        Check.sentence("13: -4: it is not THERE at NOW");
        RoadsWithTides x = three();
        x.pass(2);
        String before = Check.seen(x);
        Check.due("LEVEL 6, HEIGHT 10", x.out(0, 0), -4);
        Check.same("behind it", Check.seen(x), before);
        x.pass(1);
        Check.due("LEVEL 10, HEIGHT 10", x.out(0, 0), 4);
    }

    private static void outThereAtNowAlone() {
        Check.sentence("13: it must be THERE at NOW alone");
        RoadsWithTides x = three();
        x.pass(9);
        Check.due("THERE at 9, not at 10", x.out(0, 0), 4);
        Check.due("TURNS LEFT", x.cart(0, 3), 4);
        Check.due("CUT", x.cart(0, 6), 0);
        x.pass(1);
        Check.due("not THERE at 10", x.out(2, 0), -4);
    }

    private static void outByLoad() {
        Check.sentence("13: TURNS it takes; Terms 1: l LOAD");
        RoadsWithTides x = three();
        Check.rule(x, "s+l*5");
        x.pass(6);
        Check.due("LOAD 0", x.out(0, 0), 2);
        Check.due("LOAD 2", x.out(2, 0), 12);
        Check.due("LOAD 5: put to 20", x.out(1, 0), 20);
        Check.due("where no CART is told", x.road(0, 6), 2);
    }

    private static void roundOneAtLeast() {
        Check.sentence("14: LEFT is TURNS the other way less those that it has LEFT (1 at least)");
        RoadsWithTides x = Check.made("p0;p60;rab5-0", "12*20", "a0;b0;a0");
        x.out(0, 0);
        Check.due("5 less 8", x.round(0), 1);
        Check.due("LEFT", x.cart(0, 3), 1);
        x.out(1, 0);
        Check.due("8 less 5", x.round(1), 3);
        Check.due("5 less 3", x.round(1), 2);
        RoadsWithTides y = Check.made("p0;p0;rab5-0", "12*20", "a0");
        y.out(0, 0);
        Check.due("5 less 5", y.round(0), 1);
        Check.due("5 less 1", y.round(0), 4);
        Check.due("5 less 4", y.round(0), 1);
        y.round(0);
        y.pass(1);
        Check.due("5 less 3", y.round(0), 2);
    }

    private static void roundByLoad() {
        Check.sentence("14: TURNS the other way (by its LOAD)");
        RoadsWithTides x = Check.made("p0;p60;rab5-0", "12*20", "a3");
        Check.rule(x, "s+l+(u<0)*l");
        Check.due("up", x.out(0, 0), 8);
        Check.due("down: 11 less 8", x.round(0), 3);
        Check.due("up again: 8 less 3", x.round(0), 5);
    }

    private static void roundKeepsCut() {
        Check.sentence("14: a CART turns round: LEFT, and the PLACE to which it goes (nothing else)");
        RoadsWithTides x = longRoad("a0*");
        x.pass(9);
        x.out(0, 0);
        x.pass(3);
        Check.due("round", x.round(0), 1);
        int[] want = {-1, 0, 0, 1, 0, 1, 2, 0};
        for (int what = 0; what < want.length; what++) {
            Check.due("cart(0, " + what + ")", x.cart(0, what), want[what]);
        }
        Check.due("NOW", x.count(3), 12);
    }

    private static void roundRefused() {
        Check.sentence("14: refused: others (at a PLACE, WRECKED, none such)");
        RoadsWithTides x = longRoad("a0;a0");
        Check.due("at a PLACE", x.round(0), -1);
        Check.due("round(2)", x.round(2), -1);
        for (int c : FAR_OUT) {
            Check.due("round(" + c + ")", x.round(c), -1);
        }
        x.patience(2);
        x.pass(9);
        x.out(0, 0);
        x.pass(3);
        Check.due("WRECKED", x.round(0), -1);
        Check.due("LEFT of it", x.cart(0, 3), 8);
        Check.due("the PLACE to which it goes", x.cart(0, 2), 1);
    }

    private static void roundArrives() {
        Check.sentence("14: to the PLACE from which it came");
        RoadsWithTides x = Check.made("p0;p0;rab5-0", "12*20", "b0");
        x.out(0, 0);
        x.pass(3);
        Check.due("to where", x.cart(0, 2), 0);
        Check.due("round", x.round(0), 3);
        Check.due("to where", x.cart(0, 2), 1);
        Check.due("two TURNS", x.pass(2), 0);
        Check.due("the third", x.pass(1), 1);
        Check.due("PLACE", x.cart(0, 0), 1);
    }

    private static void chainRefused() {
        Check.sentence("15: refused: others");
        RoadsWithTides x = three();
        for (int v : new int[] {2, -1, Integer.MIN_VALUE, Integer.MAX_VALUE}) {
            Check.due("chain(0, " + v + ")", x.chain(0, v), -1);
            Check.due("chain(1, " + v + ")", x.chain(1, v), -1);
        }
        Check.due("chain(3, 1)", x.chain(3, 1), -1);
        for (int c : FAR_OUT) {
            Check.due("chain(" + c + ", 1)", x.chain(c, 1), -1);
        }
        Check.due("not CHAINED", x.cart(0, 5), 0);
        Check.due("CHAINED", x.cart(1, 5), 1);
    }

    private static void chainWrecked() {
        Check.sentence("15: refused: WRECKED");
        RoadsWithTides x = longRoad("a0");
        x.patience(1);
        x.pass(9);
        x.out(0, 0);
        x.pass(1);
        Check.due("on a ROAD", x.chain(0, 1), 0);
        Check.due("on a ROAD", x.chain(0, 0), 1);
        x.pass(1);
        Check.due("WRECKED: chained", x.chain(0, 1), -1);
        Check.due("WRECKED: loosed", x.chain(0, 0), -1);
        Check.due("not CHAINED", x.cart(0, 5), 0);
    }

    private static void chainAsItWas() {
        Check.sentence("15: CHAINED (1) or not (0): what it was");
        RoadsWithTides x = three();
        Check.due("not, not", x.chain(0, 0), 0);
        Check.due("not, chained", x.chain(0, 1), 0);
        Check.due("chained, chained", x.chain(0, 1), 1);
        Check.due("chained, not", x.chain(0, 0), 1);
        Check.due("all of them can be undone", x.count(10), 4);
    }

    private static void loadRefused() {
        Check.sentence("16: refused: others (v 0 .. 9; none such)");
        RoadsWithTides x = three();
        for (int v : new int[] {10, -1, 11, Integer.MIN_VALUE, Integer.MAX_VALUE}) {
            Check.due("load(1, " + v + ")", x.load(1, v), -1);
        }
        Check.due("load(3, 1)", x.load(3, 1), -1);
        for (int c : FAR_OUT) {
            Check.due("load(" + c + ", 1)", x.load(c, 1), -1);
        }
        Check.due("LOAD", x.cart(1, 4), 5);
    }

    private static void loadOnARoad() {
        Check.sentence("16: LOAD of a CART at a PLACE; refused: others");
        RoadsWithTides x = three();
        x.pass(6);
        x.out(1, 0);
        Check.due("on a ROAD", x.load(1, 3), -1);
        Check.due("LOAD", x.cart(1, 4), 5);
        x.pass(2);
        Check.due("at a PLACE again", x.load(1, 3), 5);
    }

    private static void loadAtItsEnds() {
        Check.sentence("16: becomes v (0 .. 9): what it was");
        RoadsWithTides x = three();
        Check.due("9", x.load(1, 9), 5);
        Check.due("0", x.load(1, 0), 9);
        Check.due("0 again", x.load(1, 0), 0);
        Check.due("all of them can be undone", x.count(10), 3);
    }

    private static void stormLikeOnes() {
        Check.sentence("17: between two unlike PLACES; NONE: others");
        RoadsWithTides x = three();
        for (int p = 0; p < 3; p++) {
            Check.due("storm(0, " + p + ", " + p + ")", x.storm(0, p, p), -1);
        }
        Check.due("where it was", x.storm(0, 0, 1), 1);
    }

    private static void stormNoneSuch() {
        Check.sentence("17: NONE: others (none such)");
        RoadsWithTides x = three();
        Check.due("storm(3, 0, 1)", x.storm(3, 0, 1), -1);
        Check.due("storm(0, 3, 1)", x.storm(0, 3, 1), -1);
        Check.due("storm(0, 1, 3)", x.storm(0, 1, 3), -1);
        for (int one : FAR_OUT) {
            Check.due("storm(" + one + ", 0, 1)", x.storm(one, 0, 1), -1);
            Check.due("storm(0, " + one + ", 1)", x.storm(0, one, 1), -1);
            Check.due("storm(0, 1, " + one + ")", x.storm(0, 1, one), -1);
        }
        Check.due("the last ones", x.storm(2, 2, 1), 2);
    }

    private static void stormUnderACart() {
        Check.sentence("17: -2: a CART is on it");
        RoadsWithTides x = three();
        x.patience(1);
        x.pass(9);
        x.out(0, 0);
        Check.due("a CART is on it", x.storm(0, 0, 2), -2);
        Check.due("a CART is on it, between the same", x.storm(0, 0, 1), -2);
        x.pass(2);
        Check.due("a WRECKED one is on it", x.storm(0, 0, 2), -2);
        Check.due("the first", x.road(0, 0), 0);
        Check.due("the other", x.road(0, 1), 1);
        Check.due("none is on another", x.storm(2, 0, 1), 2);
        RoadsWithTides y = Check.made("p0;p0;p0;rab1-0", "12*20", "a0");
        y.out(0, 0);
        y.pass(1);
        Check.due("it has come to its PLACE", y.storm(0, 0, 2), 1);
    }

    private static void stormNoneFirst() {
        Check.sentence("Terms 2: NONE is asked ahead of other answers below 0: storm()");
        RoadsWithTides x = three();
        x.pass(9);
        x.out(0, 0);
        Check.due("a CART is on it, like ones", x.storm(0, 1, 1), -1);
        Check.due("a CART is on it, no such PLACE", x.storm(0, 3, 1), -1);
        Check.due("a CART is on it, no such PLACE", x.storm(0, 1, -1), -1);
    }

    private static void stormAnswersWhereItWas() {
        Check.sentence("17: PLACES between which it was, 8 times the first and the other");
        RoadsWithTides x = Check.made("p1;p2;p3;p4;p5;p6;p7;p8;rgh1-1;rba2-2", "12*20", "");
        Check.due("g and h", x.storm(0, 7, 6), 55);
        Check.due("h and g", x.storm(0, 0, 1), 62);
        Check.due("a and b", x.storm(0, 6, 7), 1);
        Check.due("b and a", x.storm(1, 1, 0), 8);
        Check.due("what stays: STEPS", x.road(1, 2), 2);
        Check.due("what stays: HEIGHT", x.road(1, 3), 2);
    }

    private static void stormTurnsOtherWay() {
        Check.sentence("17: a ROAD between other PLACES: its TURNS are theirs");
        RoadsWithTides x = three();
        Check.due("from 10 to 50", x.road(0, 6), 4);
        x.storm(0, 2, 0);
        Check.due("from 20 to 10", x.road(0, 6), 2);
        Check.due("from 10 to 20", x.road(0, 7), 2);
        x.storm(0, 1, 0);
        Check.due("from 50 to 10", x.road(0, 6), 2);
        Check.due("from 10 to 50", x.road(0, 7), 4);
    }

    private static void passRefused() {
        Check.sentence("18: n TURNS (0 .. 99); NONE: another n");
        RoadsWithTides x = three();
        x.ebb();
        for (int n : new int[] {100, 101, -1, Integer.MIN_VALUE, Integer.MAX_VALUE}) {
            Check.due("pass(" + n + ")", x.pass(n), -1);
            Check.due("NOW", x.count(3), 0);
        }
        Check.row("the ROW stays", x, 6, 0, 0);
        Check.due("nothing can be undone", x.count(10), 0);
    }

    private static void passZero() {
        Check.sentence("18: 0 TURNS go by");
        RoadsWithTides x = longRoad("a0;a0");
        x.pass(9);
        x.out(0, 0);
        x.pass(3);
        Check.due("pass(0)", x.pass(0), 0);
        Check.row("those that are CUT now", x, 0, 1, 0);
        Check.due("NOW", x.count(3), 12);
        Check.due("CUT", x.cart(0, 6), 2);
    }

    private static void passNinetyNine() {
        Check.sentence("18: 99 TURNS go by");
        RoadsWithTides x = three();
        Check.due("pass(99)", x.pass(99), 0);
        Check.due("pass(99)", x.pass(99), 0);
        Check.due("NOW", x.count(3), 198);
        Check.due("LEVEL", x.level(0), 20);
    }

    private static void passTellsWhoCame() {
        Check.sentence("18: how many CARTS came to a PLACE; the ROW: they (bits)");
        RoadsWithTides x = Check.made("p0;p0;rab1-0;rab3-0;rab9-0", "12*20", "a0;b0;a0;a0;a0");
        for (int c = 0; c < 5; c++) {
            x.out(c, c == 4 ? 0 : c % 3);
        }
        Check.due("at once", x.pass(1), 3);
        Check.row("at once", x, 1 + 8 + 16, 0, 0);
        Check.due("none", x.pass(1), 0);
        Check.row("none", x, 0, 0, 0);
        Check.due("the rest", x.pass(99), 2);
        Check.row("the rest", x, 2 + 4, 0, 0);
    }

    private static void passTellsWhoIsCut() {
        Check.sentence("18: those that are CUT now (CUT above 0; bits)");
        RoadsWithTides x = longRoad("a0;a0*;a0");
        x.patience(3);
        x.pass(9);
        x.out(0, 0);
        x.out(1, 0);
        x.pass(1);
        Check.row("THERE yet", x, 0, 0, 0);
        x.pass(1);
        Check.row("CUT 1", x, 0, 3, 0);
        x.pass(2);
        Check.row("CUT 3, the first WRECKED", x, 0, 3, 1);
        x.pass(3);
        Check.row("THERE again; the WRECKED one is CUT yet", x, 0, 1, 0);
        x.pass(30);
        Check.row("the other has come", x, 2, 1, 0);
    }

    private static void passTellsWhoWasWrecked() {
        Check.sentence("18: those that were WRECKED in these (bits)");
        RoadsWithTides x = longRoad("a0;a0;a0*;a0");
        x.patience(2);
        x.pass(8);
        x.out(0, 0);
        x.out(2, 0);
        x.pass(1);
        x.out(3, 0);
        x.pass(2);
        Check.row("none yet", x, 0, 13, 0);
        x.pass(1);
        Check.row("two", x, 0, 13, 9);
        x.pass(1);
        Check.row("not told again", x, 0, 13, 0);
    }

    private static void dayTillOneCant() {
        Check.sentence("19: one by one, till one can't be: how many were done; the ROW: 1 if one could not be, else 0");
        RoadsWithTides x = three();
        Check.due("all of three", Check.day(x, "t1;t1;t1"), 3);
        Check.row("all of three", x, 0, 0);
        Check.due("the first can't be", Check.day(x, "b0;t1;t1"), 0);
        Check.row("the first can't be", x, 1, 0);
        Check.due("NOW", x.count(3), 3);
        Check.due("the last can't be", Check.day(x, "t1;t1;b0"), 2);
        Check.row("the last can't be", x, 1, 0);
        Check.due("NOW", x.count(3), 5);
        Check.due("what is behind it is not done", Check.day(x, "c0;b0;c1;t9"), 1);
        Check.due("CHAINED", x.cart(1, 5), 1);
        Check.due("NOW", x.count(3), 5);
        RoadsWithTides y = three();
        Check.due("a long day", Check.day(y, "t1;t2;t3;t9"), 4);
        Check.due("a shorter one does nothing of it", Check.day(y, "t1"), 1);
        Check.due("NOW", y.count(3), 16);
        Check.due("an empty one does nothing of it", Check.day(y, ""), 0);
        Check.due("NOW", y.count(3), 16);
    }

    private static void dayActsThatCant() {
        Check.sentence("19: till one can't be (it answers below 0)");
        String[] acts = {"o30", "o90", "o03", "o099", "o01", "o00", "b0", "b3", "c3", "c9", "l30", "l91"};
        for (String act : acts) {
            RoadsWithTides x = three();
            Check.due(act, Check.day(x, act), 0);
            Check.row(act, x, 1, 0);
            Check.due("nothing can be undone", x.count(10), 0);
        }
        RoadsWithTides y = three();
        y.patience(1);
        y.pass(9);
        y.out(0, 0);
        y.pass(2);
        for (String act : new String[] {"o00", "o02", "b0", "c0", "l01"}) {
            Check.due(act + " of a WRECKED one", Check.day(y, act), 0);
            Check.row(act + " of a WRECKED one", y, 1, 0);
        }
    }

    private static void dayCountsEachTime() {
        Check.sentence("19: how many CARTS came to a PLACE (each time)");
        RoadsWithTides x = Check.made("p0;p0;rab1-0", "2*0", "a0;b0");
        Check.due("a day", Check.day(x, "o00;o10;t1;o00;t1;o00;b0;t5;o10"), 9);
        Check.row("two, one, one", x, 0, 4);
        Check.due("till one can't be", Check.day(x, "t1;o00;t1;o05;t1"), 3);
        Check.row("one and one ahead of it", x, 1, 2);
        Check.due("another day begins at none", Check.day(x, "t1"), 1);
        Check.row("another day begins at none", x, 0, 0);
    }

    private static void dayChains() {
        Check.sentence("19: c: it is CHAINED if it was not, else not");
        RoadsWithTides x = three();
        Check.due("day", Check.day(x, "c0;c1"), 2);
        Check.due("CHAINED", x.cart(0, 5), 1);
        Check.due("not CHAINED", x.cart(1, 5), 0);
        Check.due("day", Check.day(x, "c0;c1;c1"), 3);
        Check.due("not CHAINED", x.cart(0, 5), 0);
        Check.due("not CHAINED", x.cart(1, 5), 0);
    }

    private static void dayNumbersOfTwoDigits() {
        Check.sentence("19: a number (1 or 2 digits), a digit");
        RoadsWithTides x = Check.made("p0;p0;rab1-0;rab1-0;rab1-0;rab1-0;rab1-0;rab1-0;rab1-0;rab1-0", "2*0", "a0;a0;a0");
        Check.flats(x, "rab1-0;rab1-0;rab5-0;rab6-0");
        Check.due("ROADS 10, 01 and 7", Check.day(x, "o010;o101;o27"), 3);
        Check.due("ROAD 10", x.cart(0, 1), 10);
        Check.due("ROAD 1", x.cart(1, 1), 1);
        Check.due("ROAD 7", x.cart(2, 1), 7);
        Check.due("TURNS 0, 00, 03, 99", Check.day(x, "t0;t00;t03;t99"), 4);
        Check.due("NOW", x.count(3), 102);
        Check.due("LOAD 9", Check.day(x, "l09;l10"), 2);
        Check.due("LOAD 9", x.cart(0, 4), 9);
    }

    private static void undoNone() {
        Check.sentence("20: refused: none");
        Check.due("of a new object", new RoadsWithTides().undo(), -1);
        RoadsWithTides x = three();
        Check.due("of one that was told of", x.undo(), -1);
        x.pass(1);
        Check.due("one", x.undo(), 0);
        String before = Check.seen(x);
        Check.due("no more", x.undo(), -1);
        Check.same("behind it", Check.seen(x), before);
    }

    private static void undoRefusedOnesAreNone() {
        Check.sentence("20: such as were done");
        RoadsWithTides x = three();
        x.pass(3);
        int[] answers = {x.out(0, 3), x.out(0, 1), x.out(0, 2), x.round(0), x.round(9), x.chain(0, 2), x.load(0, 10),
            x.storm(0, 1, 1), x.pass(100), x.pass(-1)};
        for (int i = 0; i < answers.length; i++) {
            Check.due("call " + i + " is not done", answers[i] < 0, true);
        }
        Check.due("can be undone", x.count(10), 1);
        x.out(0, 0);
        x.out(0, 0);
        x.storm(0, 1, 2);
        Check.due("can be undone", x.count(10), 2);
        x.undo();
        Check.due("at its PLACE", x.cart(0, 0), 0);
        Check.due("NOW", x.count(3), 3);
        x.undo();
        Check.due("NOW", x.count(3), 0);
    }

    private static void undoPassOfOneAndMore() {
        Check.sentence("20: pass() of 1 and more");
        RoadsWithTides x = three();
        x.pass(0);
        Check.due("of pass(0)", x.count(10), 0);
        Check.due("undo", x.undo(), -1);
        x.pass(1);
        Check.due("of pass(1)", x.count(10), 1);
        x.pass(0);
        Check.due("of pass(0) behind it", x.count(10), 1);
        x.pass(99);
        Check.due("of pass(99)", x.count(10), 2);
        x.undo();
        Check.due("NOW", x.count(3), 1);
    }

    private static void undoDayOfOneAct() {
        Check.sentence("20: day() of which one ACT was done, as one");
        RoadsWithTides x = three();
        Check.day(x, "");
        Check.day(x, "b0;t1");
        Check.day(x, "t1;x");
        Check.due("of none", x.count(10), 0);
        Check.day(x, "t2;b0;t1");
        Check.due("of one that was done", x.count(10), 1);
        Check.day(x, "c0;l07;t3;c1");
        Check.due("of four, as one", x.count(10), 2);
        Check.due("undo", x.undo(), 1);
        Check.due("NOW", x.count(3), 2);
        Check.due("CHAINED", x.cart(0, 5), 0);
        Check.due("CHAINED", x.cart(1, 5), 1);
        Check.due("LOAD", x.cart(0, 4), 0);
        Check.due("undo", x.undo(), 0);
        Check.due("NOW", x.count(3), 0);
        Check.day(x, "t0");
        Check.due("t0 is an ACT that was done", x.count(10), 1);
    }

    private static void undoOfEach() {
        Check.sentence("20: the latest out(), round(), chain(), load(), storm(), pass(), day() is undone");
        for (int call = 0; call < 7; call++) {
            RoadsWithTides x = three();
            x.pass(9);
            x.out(2, 0);
            String before = Check.seen(x);
            int answer = call == 0 ? x.out(0, 0) : call == 1 ? x.round(2) : call == 2 ? x.chain(1, 0)
                    : call == 3 ? x.load(1, 9) : call == 4 ? x.storm(1, 0, 2) : call == 5 ? x.pass(8) : Check.day(x, "t8;c1");
            Check.due("call " + call + " is done", answer >= 0, true);
            Check.due("call " + call + ": can be undone", x.count(10), 3);
            Check.due("call " + call + " is seen", Check.seen(x).equals(before), false);
            Check.due("call " + call + ": undo", x.undo(), 2);
            Check.same("call " + call + " is undone", Check.seen(x), before);
        }
    }

    private static void undoTwelve() {
        Check.sentence("20: of 12 that are kept, the latest ones");
        RoadsWithTides x = three();
        for (int i = 1; i <= 14; i++) {
            x.pass(1);
            Check.due("behind " + i + " can be undone", x.count(10), i < 12 ? i : 12);
        }
        x.out(0, 3);
        Check.due("a refused one costs none", x.count(10), 12);
        for (int left = 11; left >= 0; left--) {
            Check.due("undo", x.undo(), left);
            Check.due("NOW", x.count(3), 2 + left);
        }
        Check.due("a thirteenth", x.undo(), -1);
        Check.due("NOW", x.count(3), 2);
        for (int i = 0; i < 12; i++) {
            x.pass(2);
        }
        for (int i = 0; i < 30; i++) {
            x.round(0);
            x.out(0, 3);
        }
        for (int i = 0; i < 12; i++) {
            x.undo();
        }
        Check.due("NOW: twelve were kept though refused ones came", x.count(3), 2);
    }

    private static void undoHowManyAreLeft() {
        Check.sentence("20: how many are left that can be");
        RoadsWithTides x = three();
        x.pass(1);
        x.pass(1);
        x.pass(1);
        Check.due("undo", x.undo(), 2);
        x.pass(5);
        Check.due("undo, once more done", x.undo(), 2);
        Check.due("NOW", x.count(3), 2);
        Check.due("undo", x.undo(), 1);
        Check.due("undo", x.undo(), 0);
        Check.due("undo", x.undo(), -1);
    }

    private static void undoLeavesTheRest() {
        Check.sentence("20: NOW, CARTS, between which PLACES ROADS are, are as ahead of it (nothing else)");
        RoadsWithTides x = three();
        x.pass(1);
        x.patience(3);
        x.sheet(2, 3, 7, 1);
        Check.tide(x, "5*40");
        Check.rule(x, "11");
        x.mark(4, 5);
        x.ebb();
        x.sign(0);
        Check.due("undo", x.undo(), 0);
        Check.due("PATIENCE", x.count(7), 3);
        Check.due("HEIGHT", x.road(1, 3), 8);
        Check.due("LEVEL", x.level(2), 32);
        Check.due("THE RULE", x.road(0, 6), 11);
        Check.due("marks", x.count(9), 1);
        Check.due("THE TEXT", x.count(12), 4);
        Check.due("none of these can be undone", x.undo(), -1);
    }

    private static void undoForgottenByFlats() {
        Check.sentence("20: flats() forgets them");
        RoadsWithTides x = three();
        x.pass(1);
        Check.due("flats", Check.flats(x, "p1"), 1);
        Check.due("can be undone", x.count(10), 0);
        Check.due("undo", x.undo(), -1);
        Check.due("NOW", x.count(3), 1);
        x.pass(1);
        Check.flats(x, "rab1-1");
        Check.due("a ROAD does it too", x.undo(), -1);
    }

    private static void undoForgottenByCarts() {
        Check.sentence("20: carts() forgets them");
        RoadsWithTides x = three();
        x.pass(1);
        Check.due("carts", Check.carts(x, "c1"), 1);
        Check.due("can be undone", x.count(10), 0);
        Check.due("undo", x.undo(), -1);
        Check.due("NOW", x.count(3), 1);
        Check.due("the CART stays", x.count(2), 4);
    }

    private static void undoForgottenByAgain() {
        Check.sentence("20: again() forgets them");
        RoadsWithTides x = three();
        x.pass(1);
        x.keep(0);
        Check.due("keep() does not", x.count(10), 1);
        x.pass(1);
        Check.due("again", x.again(0), true);
        Check.due("can be undone", x.count(10), 0);
        Check.due("undo", x.undo(), -1);
        Check.due("NOW", x.count(3), 1);
        x.pass(3);
        Check.due("what is done behind it can be undone", x.undo(), 0);
        Check.due("NOW", x.count(3), 1);
    }

    private static void undoNotForgottenByEmptyOnes() {
        Check.sentence("20: empty ones do not (forget them)");
        RoadsWithTides x = three();
        x.pass(1);
        Check.due("flats", Check.flats(x, ""), 0);
        Check.due("carts", Check.carts(x, ""), 0);
        Check.due("rule", Check.rule(x, ""), 0);
        Check.due("day", Check.day(x, ""), 0);
        Check.due("undo", x.undo(), 0);
        Check.due("NOW", x.count(3), 0);
    }

    private static void undoNotForgottenByRefusedOnes() {
        Check.sentence("20: if they are not refused");
        RoadsWithTides x = three();
        x.keep(0);
        x.pass(1);
        Check.due("flats", Check.flats(x, "p1;x"), -4);
        Check.due("carts", Check.carts(x, "a1;x"), -4);
        Check.due("again", x.again(1), false);
        Check.due("again", x.again(2), false);
        Check.due("tide, though done", Check.tide(x, "9*9"), 1);
        Check.due("rule, though done", Check.rule(x, "9"), 0);
        Check.due("undo", x.undo(), 0);
        Check.due("NOW", x.count(3), 0);
    }
}
