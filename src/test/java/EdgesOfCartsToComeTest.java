/** The edges of promises 34 to 36 (carts to come): for each sentence that names one, a method of its own. */
public final class EdgesOfCartsToComeTest {
    private static final int[] FAR_OUT = {-1, -2, Integer.MIN_VALUE, Integer.MAX_VALUE};
    /** 20 high at 77 and 231 alone. */
    private static final String SELDOM = "22*10+14*10";

    public static void main(String[] args) {
        arrivesAtOnce();
        arrivesWithoutMissing();
        arrivesAtTheLast();
        arrivesNotInThese();
        arrivesWrecked();
        arrivesWreckedByCutSoFar();
        arrivesWreckedAlready();
        arrivesNotAtAll();
        arrivesRefused();
        arrivesNoneFirst();
        bestNow();
        bestThereThen();
        bestFewestMissed();
        bestSoonest();
        bestFirst();
        bestAtTheLast();
        bestByNone();
        bestWrecked();
        bestNotInTime();
        bestByLoad();
        bestEndsElsewhere();
        bestRefused();
        bestNoneFirst();
        couldNow();
        couldAtItsEnds();
        couldOnARoad();
        couldBackOnARoad();
        couldWrecked();
        couldWithoutLoad();
        couldNone();
        couldRefused();
        Check.finish();
    }

    /** A ROAD that is THERE at 3 .. 9, 15 .. 21, .. */
    private static RoadsWithTides tidal(int steps, String carts) {
        return Check.made("p0;p0;rab" + steps + "-10", "12*20", carts);
    }

    private static void arrivesAtOnce() {
        Check.sentence("34: in how many TURNS (1 ..)");
        RoadsWithTides x = tidal(1, "a0");
        x.pass(3);
        x.out(0, 0);
        Check.due("in 1", x.arrives(0), 1);
        Check.row("in 1", x, 0);
        Check.due("so it is", x.pass(1), 1);
    }

    private static void arrivesWithoutMissing() {
        Check.sentence("34: the ROW: in how many of these the ROAD is not THERE: none");
        RoadsWithTides x = tidal(7, "a0");
        x.pass(3);
        x.out(0, 0);
        Check.due("3 .. 9", x.arrives(0), 7);
        Check.row("3 .. 9", x, 0);
        x.undo();
        x.pass(1);
        x.out(0, 0);
        Check.due("4 .. 9, 15", x.arrives(0), 12);
        Check.row("4 .. 9, 15", x, 5);
        x.pass(11);
        Check.due("15", x.arrives(0), 1);
        Check.row("15", x, 0);
    }

    private static void arrivesAtTheLast() {
        Check.sentence("34: in how many TURNS (.. 120)");
        RoadsWithTides x = Check.made("p0;p0;rab3-20", "60*20/30", "a0*");
        x.out(0, 0);
        Check.due("0, 60, 120: it is there in 121", x.arrives(0), -2);
        Check.row("in 121", x, -1);
        x.pass(1);
        Check.due("60, 120: it is there in 120", x.arrives(0), 120);
        Check.row("in 120", x, 118);
    }

    private static void arrivesNotInThese() {
        Check.sentence("34: -2: not in these (NONE: it is not WRECKED)");
        RoadsWithTides x = tidal(9, "a0*");
        x.pass(3);
        x.out(0, 0);
        x.sheet(2, 1, 21, 0);
        Check.due("CHAINED, never THERE", x.arrives(0), -2);
        Check.row("CHAINED, never THERE", x, -1);
        x.pass(99);
        Check.due("CHAINED, never THERE", x.arrives(0), -2);
        Check.row("CHAINED, never THERE", x, -1);
    }

    private static void arrivesWrecked() {
        Check.sentence("34: the ROW: behind how many it is WRECKED");
        RoadsWithTides x = tidal(9, "a0");
        x.pass(9);
        x.out(0, 0);
        x.patience(5);
        Check.due("THERE at 9, not at 10 .. 14", x.arrives(0), -2);
        Check.row("behind 6", x, 6);
        x.pass(5);
        Check.due("not yet WRECKED", x.cart(0, 7), 0);
        Check.due("not at 14", x.arrives(0), -2);
        Check.row("behind 1", x, 1);
        x.pass(1);
        Check.due("WRECKED", x.cart(0, 7), 1);
        x.undo();
        x.undo();
        x.patience(6);
        Check.due("PATIENCE 6: 9, 15 .. 21, 27", x.arrives(0), 19);
        Check.row("PATIENCE 6", x, 10);
    }

    private static void arrivesWreckedByCutSoFar() {
        Check.sentence("34: behind how many it is WRECKED (CUT so far counts)");
        RoadsWithTides x = tidal(9, "a0*");
        x.pass(9);
        x.out(0, 0);
        x.pass(5);
        Check.due("CUT", x.cart(0, 6), 4);
        x.chain(0, 0);
        x.patience(4);
        Check.due("PATIENCE 4, CUT 4", x.arrives(0), -2);
        Check.row("behind 1", x, 1);
        x.patience(5);
        Check.due("PATIENCE 5", x.arrives(0), -2);
        Check.row("behind 1", x, 1);
        x.patience(6);
        Check.due("PATIENCE 6", x.arrives(0), 14);
        x.pass(1);
        x.patience(1);
        Check.due("CUT 5, PATIENCE 1, but THERE at 15 .. 21", x.arrives(0), -2);
        Check.row("behind 8", x, 8);
    }

    private static void arrivesWreckedAlready() {
        Check.sentence("34: 0: already");
        RoadsWithTides x = tidal(9, "a0;a0*");
        x.patience(1);
        x.pass(9);
        x.out(0, 0);
        x.out(1, 0);
        x.pass(2);
        Check.due("the other one", x.arrives(1) > 0, true);
        Check.due("WRECKED", x.arrives(0), -2);
        Check.row("WRECKED", x, 0);
        x.sheet(3, 0, 0, 0);
        Check.due("though the ROAD is THERE", x.arrives(0), -2);
        Check.row("though the ROAD is THERE", x, 0);
    }

    private static void arrivesNotAtAll() {
        Check.sentence("34: -2: not in these: WRECKED behind 20 at the latest");
        RoadsWithTides x = tidal(9, "a0");
        x.pass(3);
        x.out(0, 0);
        x.sheet(2, 1, 21, 0);
        x.patience(20);
        Check.due("PATIENCE 20", x.arrives(0), -2);
        Check.row("behind 20", x, 20);
    }

    private static void arrivesRefused() {
        Check.sentence("34: NONE: others, it is on no ROAD");
        RoadsWithTides x = tidal(9, "a0");
        x.ebb();
        Check.due("on no ROAD", x.arrives(0), -1);
        Check.due("arrives(1)", x.arrives(1), -1);
        for (int c : FAR_OUT) {
            Check.due("arrives(" + c + ")", x.arrives(c), -1);
        }
        Check.row("the ROW stays", x, 6, 0, 0);
    }

    private static void arrivesNoneFirst() {
        Check.sentence("34: it is on no ROAD (again)");
        RoadsWithTides x = tidal(1, "a0");
        x.pass(3);
        x.out(0, 0);
        x.pass(1);
        Check.due("it has come", x.arrives(0), -1);
    }

    private static void bestNow() {
        Check.sentence("35: the best TURN (0 ..)");
        RoadsWithTides x = tidal(7, "a0");
        x.pass(3);
        Check.due("now", x.best(0, 0), 0);
        Check.row("now", x, 0, 7);
        x.pass(1);
        Check.due("4 .. 9, 15 misses 5; 15 .. 21 none", x.best(0, 0), 11);
        Check.row("15 .. 21", x, 0, 18);
    }

    private static void bestThereThen() {
        Check.sentence("35: to set out by a ROAD (it must be THERE then)");
        RoadsWithTides x = tidal(1, "a0");
        Check.due("THERE at 3", x.best(0, 0), 3);
        Check.row("THERE at 3", x, 0, 4);
        x.pass(10);
        Check.due("THERE at 15", x.best(0, 0), 5);
        Check.row("THERE at 15", x, 0, 6);
    }

    private static void bestFewestMissed() {
        Check.sentence("35: by which in the fewest TURNS the ROAD is not THERE on the way");
        RoadsWithTides x = tidal(8, "a0");
        Check.due("eight of seven: 3 .. 9, 15", x.best(0, 0), 3);
        Check.row("eight of seven", x, 5, 16);
        x.pass(4);
        Check.due("4 .. 9, 15, 16 is sooner, but 15 .. 21, 27 misses as many", x.best(0, 0), 0);
        Check.row("4 .. 9, 15, 16", x, 5, 13);
        RoadsWithTides y = tidal(7, "a0");
        y.pass(4);
        Check.due("4 .. 9, 15 misses 5, 15 .. 21 none", y.best(0, 0), 11);
        Check.row("15 .. 21", y, 0, 18);
    }

    private static void bestSoonest() {
        Check.sentence("35: of such the one by which it is at the other end the soonest");
        RoadsWithTides x = tidal(3, "a0");
        Check.due("3 and 4 and .. miss none", x.best(0, 0), 3);
        Check.row("3 is the soonest", x, 0, 6);
        x.pass(8);
        Check.due("8 misses 5, 15 none", x.best(0, 0), 7);
        Check.row("15 is the soonest of them", x, 0, 10);
    }

    private static void bestFirst() {
        Check.sentence("35: of such the first: it");
        // THERE at 0, 60, 120: of two TURNS, 59 are missed, whether it sets out at 0 or 60
        RoadsWithTides x = Check.made("p0;p0;rab2-20", "60*20/30", "a0*");
        Check.due("0 and 60 miss as many", x.best(0, 0), 0);
        Check.row("0", x, 59, 61);
    }

    private static void bestAtTheLast() {
        Check.sentence("35: the best TURN (0 .. 60 from now)");
        RoadsWithTides x = Check.made("p0;p0;rab1-20", SELDOM, "a0");
        x.pass(16);
        Check.due("in 61", x.best(0, 0), -2);
        x.pass(1);
        Check.due("in 60", x.best(0, 0), 60);
        Check.row("in 60", x, 0, 61);
        x.pass(1);
        Check.due("in 59", x.best(0, 0), 59);
        Check.row("in 59", x, 0, 60);
    }

    private static void bestByNone() {
        Check.sentence("35: -2: by none");
        RoadsWithTides x = Check.made("p0;p0;rab1-21", "12*20", "a0*");
        x.ebb();
        Check.due("never THERE", x.best(0, 0), -2);
    }

    private static void bestWrecked() {
        Check.sentence("35: -2: (WRECKED ..)");
        RoadsWithTides x = tidal(8, "a0;a0*");
        x.patience(5);
        Check.due("not CHAINED", x.best(0, 0), -2);
        Check.due("CHAINED", x.best(1, 0), 3);
        Check.row("CHAINED", x, 5, 16);
        x.patience(6);
        Check.due("PATIENCE 6", x.best(0, 0), 3);
        Check.row("PATIENCE 6", x, 5, 16);
    }

    private static void bestNotInTime() {
        Check.sentence("35: -2: (.. or not in 120 from setting out)");
        RoadsWithTides x = Check.made("p0;p0;rab3-20", "60*20/30", "a0*");
        Check.due("0, 60, 120: in 121", x.best(0, 0), -2);
        RoadsWithTides y = Check.made("p0;p0;rab2-20", "60*20/31", "a0*");
        Check.due("59 and 119: in 61 from setting out", y.best(0, 0), 59);
        Check.row("in 120 from now", y, 59, 120);
        RoadsWithTides z = Check.made("p0;p0;rab2-20", "60*20/30", "a0*");
        z.pass(1);
        Check.due("60 and 120: in 61 from setting out", z.best(0, 0), 59);
        z.undo();
        z.pass(30);
        Check.due("60 and 120", z.best(0, 0), 30);
        Check.row("60 and 120", z, 59, 91);
        // 30*20/15 is 20 at 0, 30, 60, ..: five TURNS take 121
        RoadsWithTides w = Check.made("p0;p0;rab5-20;rab4-20", "30*20/15", "a0*");
        Check.due("five TURNS: 0, 30, 60, 90, 120", w.best(0, 0), -2);
        Check.due("four TURNS", w.best(0, 1), 0);
        Check.row("four TURNS", w, 87, 91);
        w.pass(31);
        Check.due("four TURNS, from 31 on: 60, .., 150, beyond 120 from now", w.best(0, 1), 29);
        Check.row("it is there in 120 from now", w, 87, 120);
        w.undo();
        w.pass(1);
        Check.due("four TURNS, from 1 on", w.best(0, 1), 29);
        // THERE at 0, 1, then 59 .. 61, 119 .. 121: six TURNS from 1 on miss 114, from 59 on 57
        RoadsWithTides v = Check.made("p0;p0;rab6-19", "60*20/30", "a0*");
        v.pass(1);
        Check.due("63 from setting out in 58", v.best(0, 0), 58);
        Check.row("it is there in 121 from now", v, 57, 121);
    }

    private static void bestByLoad() {
        Check.sentence("35: a CART (TURNS by its LOAD)");
        RoadsWithTides x = Check.made("p0;p0;rab1-10", "12*20", "a0;a6;a7");
        Check.rule(x, "s+l");
        Check.due("one TURN", x.best(0, 0), 3);
        Check.row("one TURN", x, 0, 4);
        Check.due("seven TURNS", x.best(1, 0), 3);
        Check.row("seven TURNS", x, 0, 10);
        Check.due("eight TURNS", x.best(2, 0), 3);
        Check.row("eight TURNS", x, 5, 16);
    }

    private static void bestEndsElsewhere() {
        Check.sentence("35: -3: the ROAD does not end there");
        RoadsWithTides x = Check.made("p0;p0;p0;rab1-10;rbc1-10;rca1-10", "12*20", "a0;b0;c0");
        for (int c = 0; c < 3; c++) {
            Check.due("elsewhere", x.best(c, (c + 1) % 3), -3);
            Check.due("it ends there", x.best(c, c), 3);
            Check.due("it ends there", x.best(c, (c + 2) % 3), 3);
        }
    }

    private static void bestRefused() {
        Check.sentence("35: NONE: others, it is at no PLACE");
        RoadsWithTides x = tidal(9, "a0;a0");
        x.ebb();
        Check.due("best(2, 0)", x.best(2, 0), -1);
        Check.due("best(0, 1)", x.best(0, 1), -1);
        for (int one : FAR_OUT) {
            Check.due("best(" + one + ", 0)", x.best(one, 0), -1);
            Check.due("best(0, " + one + ")", x.best(0, one), -1);
        }
        x.pass(3);
        x.out(0, 0);
        x.ebb();
        Check.due("on a ROAD", x.best(0, 0), -1);
        Check.row("the ROW stays", x, 3, 0, 9);
    }

    private static void bestNoneFirst() {
        Check.sentence("Terms 2: NONE is asked ahead of other answers below 0: best()");
        RoadsWithTides x = Check.made("p0;p0;p0;rab9-10;rbc9-99", "12*20", "a0");
        x.pass(3);
        Check.due("ends elsewhere, and never THERE", x.best(0, 1), -3);
        x.out(0, 0);
        Check.due("on a ROAD, one that ends elsewhere", x.best(0, 1), -1);
        Check.due("on a ROAD, none such", x.best(0, 2), -1);
    }

    private static void couldNow() {
        Check.sentence("36: in n TURNS (0 ..)");
        RoadsWithTides x = Check.made("p0;p0;rab1-0", "2*0", "a0;b0;a0");
        Check.due("at a", x.could(0, 0), 5);
        Check.due("at b", x.could(1, 0), 2);
        Check.due("in 1", x.could(0, 1), 7);
    }

    private static void couldAtItsEnds() {
        Check.sentence("36: in n TURNS (.. 120)");
        RoadsWithTides x = Check.made("p0;p0;p0;p0;p0;p0;p0;p0", "2*0", "a0;b0;c0");
        Check.flats(x, "rab1-0;rbc1-0;rcd1-0;rde1-0;ref1-0;rfg1-0;rgh1-0");
        Check.rule(x, "20");
        Check.due("to h in 120: from b", x.could(7, 120), 6);
        Check.due("to h in 119", x.could(7, 119), 4);
        Check.due("to g in 120", x.could(6, 120), 7);
    }

    private static void couldOnARoad() {
        Check.sentence("36: on a ROAD: from the PLACE to which it goes, when it arrives()");
        RoadsWithTides x = Check.made("p0;p0;p0;rab3-0;rbc2-0", "2*0", "a0");
        x.out(0, 0);
        Check.due("b in 2", x.could(1, 2), 0);
        Check.due("b in 3", x.could(1, 3), 1);
        Check.due("c in 4", x.could(2, 4), 0);
        Check.due("c in 5", x.could(2, 5), 1);
        x.pass(2);
        Check.due("b in 1", x.could(1, 1), 1);
        Check.due("c in 3", x.could(2, 3), 1);
    }

    private static void couldBackOnARoad() {
        Check.sentence("36: on a ROAD (not from where it came: it does not turn round)");
        RoadsWithTides x = Check.made("p0;p0;rab3-0", "2*0", "a0");
        x.out(0, 0);
        Check.due("a now", x.could(0, 0), 0);
        Check.due("a in 5", x.could(0, 5), 0);
        Check.due("a in 6: there and back", x.could(0, 6), 1);
    }

    private static void couldWrecked() {
        Check.sentence("36: CARTS that can be at a PLACE: not those that will be WRECKED, or are");
        RoadsWithTides x = tidal(9, "a0;a0*");
        x.pass(9);
        x.out(0, 0);
        x.out(1, 0);
        x.patience(5);
        Check.due("one will be WRECKED", x.could(1, 120), 2);
        x.pass(6);
        Check.due("one is WRECKED", x.could(1, 120), 2);
        x.sheet(2, 1, 21, 0);
        Check.due("the other never comes", x.could(1, 120), 0);
        x.sheet(3, 0, 0, 0);
        Check.due("it comes", x.could(1, 120), 2);
    }

    private static void couldWithoutLoad() {
        Check.sentence("36: without LOAD (ways); when it arrives() (with it)");
        RoadsWithTides x = Check.made("p0;p0;p0;rab3-0;rbc2-0", "2*0", "a5;b5");
        Check.rule(x, "s+l");
        Check.due("a way", x.could(2, 2), 2);
        Check.due("a way", x.could(2, 5), 3);
        x.out(0, 0);
        Check.due("8 on the ROAD", x.could(1, 7), 2);
        Check.due("8 on the ROAD", x.could(1, 8), 3);
        Check.due("8 on the ROAD and 2 by a way", x.could(2, 10), 3);
        Check.due("8 on the ROAD and 2 by a way", x.could(2, 9), 2);
    }

    private static void couldNone() {
        Check.sentence("36: CARTS (bits): none");
        RoadsWithTides x = Check.made("p0;p0;p0;rab1-0", "2*0", "a0;b0");
        Check.due("no ROAD goes there", x.could(2, 120), 0);
        Check.due("no CARTS", Check.made("p0", "2*0", "").could(0, 120), 0);
        Check.due("all of five", Check.made("p0", "2*0", "a0;a0;a0;a0;a0").could(0, 0), 31);
    }

    private static void couldRefused() {
        Check.sentence("36: NONE: others");
        RoadsWithTides x = Check.made("p0;p0;rab1-0", "2*0", "a0");
        for (int n : new int[] {121, -1, Integer.MIN_VALUE, Integer.MAX_VALUE}) {
            Check.due("could(0, " + n + ")", x.could(0, n), -1);
        }
        Check.due("could(2, 5)", x.could(2, 5), -1);
        for (int p : FAR_OUT) {
            Check.due("could(" + p + ", 5)", x.could(p, 5), -1);
        }
    }
}
