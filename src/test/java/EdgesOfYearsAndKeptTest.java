/** The edges of promises 42 to 44 (years of storms, what is kept): for each sentence that names one, a method of its own. */
public final class EdgesOfYearsAndKeptTest {
    private static final int[] FAR_OUT = {-1, -2, Integer.MIN_VALUE, Integer.MAX_VALUE};

    public static void main(String[] args) {
        yearsRefused();
        yearsFewerThanTwoPlaces();
        yearsNoRoads();
        yearsNoneFirst();
        yearsAtTheirEnds();
        yearsOfSeedsThatWrap();
        yearsTheSameTwice();
        yearsUnderACart();
        yearsTurnsGoBy();
        yearsTellWhoWasWrecked();
        yearsChangeNothing();
        keepRefused();
        keepAtItsEnds();
        keepAnew();
        againNothingKept();
        againRefused();
        againFlatsCameSince();
        againCartsCameSince();
        againEmptyOnesCame();
        againRefusedOnesCame();
        againPutsBack();
        againLeavesTheRest();
        againAsOftenAsOneLikes();
        againRefusedChangesNothing();
        Check.finish();
    }

    /** What draws tell by the document alone, in numbers that are long enough. */
    private static final class Draws {
        private long r;

        Draws(int seed) {
            r = seed & 0xffffffffL;
        }

        int draw(int n) {
            r = (r * 1103515245L + 12345L) % 4294967296L;
            return (int) (r / 65536 % n);
        }
    }

    private static RoadsWithTides two() {
        return Check.made("p0;p0;rab1-0", "2*0", "a0");
    }

    private static RoadsWithTides three() {
        return Check.made("p10;p50;p20;rab2-10;rbc3-5;rac9-15", "12*20", "a0;b5*");
    }

    private static void yearsRefused() {
        Check.sentence("42: n storms (1 .. 40); NONE: another n");
        RoadsWithTides x = two();
        x.ebb();
        for (int n : new int[] {0, 41, -1, Integer.MIN_VALUE, Integer.MAX_VALUE}) {
            Check.due("years(1, " + n + ")", x.years(1, n), -1);
        }
        Check.row("the ROW stays", x, 0, 0, 0);
    }

    private static void yearsFewerThanTwoPlaces() {
        Check.sentence("42: -2: fewer than two PLACES");
        Check.due("none", new RoadsWithTides().years(1, 1), -2);
        Check.due("one", Check.made("p1", "2*0", "a0").years(1, 40), -2);
        Check.due("two, and a ROAD", two().years(1, 40) >= 0, true);
    }

    private static void yearsNoRoads() {
        Check.sentence("42: -2: no ROADS");
        Check.due("two PLACES", Check.made("p1;p2", "2*0", "a0").years(1, 1), -2);
        Check.due("eight PLACES", Check.made("p1;p2;p3;p4;p5;p6;p7;p8", "2*0", "a0").years(1, 40), -2);
    }

    private static void yearsNoneFirst() {
        Check.sentence("Terms 2: NONE is asked ahead of other answers below 0: years()");
        RoadsWithTides x = new RoadsWithTides();
        Check.due("no PLACES, n 0", x.years(1, 0), -1);
        Check.due("no PLACES, n 41", x.years(1, 41), -1);
        Check.due("no ROADS, n 0", Check.made("p1;p2", "2*0", "").years(1, 0), -1);
    }

    private static void yearsAtTheirEnds() {
        Check.sentence("42: 1 storm, 40 storms");
        RoadsWithTides x = Check.made("p0;p0;rab1-99", "2*0", "a0*");
        Check.due("1", x.years(7, 1), 0);
        Check.row("1", x, 0, 0);
        Check.due("40", x.years(7, 40), 0);
        Check.row("40", x, 0, 0);
        // a CHAINED CART on the only ROAD: no storm throws anything
        RoadsWithTides y = two();
        y.chain(0, 1);
        y.out(0, 0);
        y.sheet(2, 1, 99, 0);
        Check.due("1", y.years(7, 1), 0);
        Check.row("1", y, 0, 1);
        Check.due("40", y.years(7, 40), 0);
        Check.row("40", y, 0, 40);
    }

    private static void yearsOfSeedsThatWrap() {
        Check.sentence("42: a DRAW of n (as ints: wrap-around; R without sign)");
        int[] seeds = {0, 1, -1, 12345, 65535, 65536, 1 << 30, Integer.MIN_VALUE, Integer.MAX_VALUE, -123456789};
        for (int seed : seeds) {
            RoadsWithTides x = Check.made("p0;p20;p40;p60;p80;rab1-9;rbc2-9;rcd1-0;rde1-9;rea1-0;rac1-9;rbd2-9", "12*20", "a0;b0;c0;d0;e0");
            for (int c = 0; c < 5; c++) {
                x.out(c, c < 2 ? c : 2);
                x.out(c, 4);
            }
            for (int n : new int[] {1, 2, 3, 17, 40}) {
                compare(x, seed, n);
            }
        }
    }

    /** Years against doing them by storm() and pass(). */
    private static void compare(RoadsWithTides x, int seed, int n) {
        String call = "years(" + seed + ", " + n + ")";
        int got = x.years(seed, n);
        int[] row = Check.rowOf(x);
        x.keep(0);
        Draws draws = new Draws(seed);
        int came = 0;
        int still = 0;
        int wrecked = Integer.bitCount(x.count(6));
        for (int i = 0; i < n; i++) {
            int road = draws.draw(x.count(1));
            int one = draws.draw(x.count(0));
            int other = draws.draw(x.count(0));
            other = one == other ? (one + 1) % x.count(0) : other;
            still += x.storm(road, one, other) < 0 ? 1 : 0;
            came += x.pass(draws.draw(12));
        }
        wrecked = Integer.bitCount(x.count(6)) - wrecked;
        x.again(0);
        Check.due(call, got, came);
        Check.due(call + ": numbers of the ROW", row.length, 2);
        Check.due(call + ": WRECKED", row[0], wrecked);
        Check.due(call + ": threw nothing", row[1], still);
    }

    private static void yearsTheSameTwice() {
        Check.sentence("42: (the same twice: the second is the next number, or 0)");
        // one storm, and TURNS enough for a CART that is on its way by another ROAD
        int next = 0;
        int zero = 0;
        for (int seed = 0; seed < 200; seed++) {
            Draws draws = new Draws(seed);
            draws.draw(2);
            int one = draws.draw(2);
            int other = draws.draw(2);
            next += one == other && one == 0 ? 1 : 0;
            zero += one == other && one == 1 ? 1 : 0;
            RoadsWithTides x = Check.made("p0;p99;rab1-0;rab9-0", "2*0", "a0;b0");
            x.out(0, 0);
            x.out(1, 1);
            x.pass(1);
            compare(x, seed, 3);
            Check.due("no storm is refused for like PLACES: of ROAD 1 alone", x.row(1) <= 3, true);
        }
        Check.due("the second was the next number at times", next > 10, true);
        Check.due("the second was 0 at times", zero > 10, true);
        // with no CART on a ROAD every storm throws: none is between like PLACES
        RoadsWithTides y = Check.made("p0;p0;rab1-0", "2*0", "");
        for (int seed = 0; seed < 100; seed++) {
            y.years(seed, 40);
            Check.row("years", y, 0, 0);
        }
    }

    private static void yearsUnderACart() {
        Check.sentence("42: if no CART is on it; how many storms threw nothing");
        RoadsWithTides x = Check.made("p0;p0;rab1-0;rab1-0", "2*0", "a0*");
        x.out(0, 1);
        x.sheet(2, 2, 99, 0);
        for (int seed = 0; seed < 20; seed++) {
            Draws draws = new Draws(seed);
            int still = 0;
            for (int i = 0; i < 40; i++) {
                still += draws.draw(2);
                draws.draw(2);
                draws.draw(2);
                draws.draw(12);
            }
            Check.due("years", x.years(seed, 40), 0);
            Check.row("years: those of ROAD 1 threw nothing", x, 0, still);
        }
    }

    private static void yearsTurnsGoBy() {
        Check.sentence("42: then a DRAW of 12 TURNS go by: how many CARTS came to a PLACE");
        RoadsWithTides x = Check.made("p0;p0;rab1-0", "2*0", "a0");
        Check.rule(x, "11");
        x.out(0, 0);
        int eleven = 0;
        for (int seed = 0; seed < 200; seed++) {
            Draws draws = new Draws(seed);
            draws.draw(1);
            draws.draw(2);
            draws.draw(2);
            int gone = draws.draw(12);
            eleven += gone == 11 ? 1 : 0;
            Check.due("11 TURNS, " + gone + " go by", x.years(seed, 1), gone == 11 ? 1 : 0);
            Check.row("years", x, 0, 1);
        }
        Check.due("eleven go by at times", eleven > 3, true);
    }

    private static void yearsTellWhoWasWrecked() {
        Check.sentence("42: the ROW: how many were WRECKED (in these)");
        RoadsWithTides x = Check.made("p0;p0;rab9-10;rab1-0", "12*20", "a0;a0;a0*;a0");
        x.patience(2);
        x.pass(9);
        x.out(0, 0);
        x.pass(3);
        Check.due("one is WRECKED already", x.count(6), 1);
        x.pass(8);
        x.out(1, 0);
        x.out(2, 0);
        Check.due("none comes", x.years(5, 40) >= 0, true);
        Check.due("one more is WRECKED, though years go on", x.row(0), 1);
        compare(x, 5, 40);
    }

    private static void yearsChangeNothing() {
        Check.sentence("Terms 2: questions change nothing: years()");
        RoadsWithTides x = three();
        x.pass(9);
        x.out(0, 0);
        x.keep(1);
        String before = Check.seen(x);
        String state = Check.stateOf(x);
        x.years(99, 40);
        Check.same("behind it", Check.seen(x), before);
        Check.due("the next is the same", x.years(99, 40), x.years(99, 40));
        Check.due("undo", x.undo(), 1);
        Check.due("NOW", x.count(3), 9);
        Check.due("at its PLACE", x.cart(0, 0), 0);
        Check.due("again", x.again(1), true);
        Check.same("as it was kept", Check.stateOf(x), state);
    }

    private static void keepRefused() {
        Check.sentence("43: under a number 0 .. 1; refused: others");
        RoadsWithTides x = three();
        Check.due("keep(2)", x.keep(2), false);
        for (int i : FAR_OUT) {
            Check.due("keep(" + i + ")", x.keep(i), false);
        }
        Check.due("nothing was kept under 0", x.again(0), false);
        Check.due("nothing was kept under 1", x.again(1), false);
    }

    private static void keepAtItsEnds() {
        Check.sentence("43: under a number 0 .. 1: true");
        RoadsWithTides x = three();
        Check.due("keep(0)", x.keep(0), true);
        Check.due("nothing is kept under 1", x.again(1), false);
        x.pass(7);
        Check.due("keep(1)", x.keep(1), true);
        x.pass(7);
        Check.due("again(0)", x.again(0), true);
        Check.due("NOW", x.count(3), 0);
        Check.due("again(1)", x.again(1), true);
        Check.due("NOW", x.count(3), 7);
        Check.due("of a new object", new RoadsWithTides().keep(1), true);
    }

    private static void keepAnew() {
        Check.sentence("43: are kept under a number (anew)");
        RoadsWithTides x = three();
        x.keep(0);
        x.pass(5);
        x.keep(0);
        x.pass(5);
        x.again(0);
        Check.due("NOW", x.count(3), 5);
        x.out(0, 1);
        x.load(0, 9);
        x.again(0);
        Check.due("what is done behind it is not kept", x.cart(0, 4), 0);
    }

    private static void againNothingKept() {
        Check.sentence("44: refused: nothing kept");
        RoadsWithTides x = three();
        Check.due("again(0)", x.again(0), false);
        Check.due("again(1)", x.again(1), false);
        x.keep(1);
        Check.due("again(0)", x.again(0), false);
        Check.due("again(1)", x.again(1), true);
    }

    private static void againRefused() {
        Check.sentence("44: a number (0 .. 1)");
        RoadsWithTides x = three();
        x.keep(0);
        x.keep(1);
        Check.due("again(2)", x.again(2), false);
        for (int i : FAR_OUT) {
            Check.due("again(" + i + ")", x.again(i), false);
        }
    }

    private static void againFlatsCameSince() {
        Check.sentence("44: refused: something of THE FLATS came since");
        for (String more : new String[] {"p1", "rab1-1", "p1;rab1-1"}) {
            RoadsWithTides x = three();
            x.keep(0);
            x.keep(1);
            Check.flats(x, more);
            x.pass(1);
            Check.due("again(0) behind " + more, x.again(0), false);
            Check.due("again(1) behind " + more, x.again(1), false);
            Check.due("NOW", x.count(3), 1);
            Check.due("kept anew", x.keep(0), true);
            x.pass(1);
            Check.due("again(0)", x.again(0), true);
            Check.due("NOW", x.count(3), 1);
            Check.due("again(1)", x.again(1), false);
        }
    }

    private static void againCartsCameSince() {
        Check.sentence("44: refused: CARTS came since");
        RoadsWithTides x = three();
        x.keep(0);
        x.keep(1);
        Check.carts(x, "c1");
        x.pass(1);
        Check.due("again(0)", x.again(0), false);
        Check.due("again(1)", x.again(1), false);
        Check.due("NOW", x.count(3), 1);
        Check.due("CARTS", x.count(2), 3);
        Check.due("kept anew", x.keep(1), true);
        Check.due("again(1)", x.again(1), true);
        Check.due("CARTS", x.count(2), 3);
    }

    private static void againEmptyOnesCame() {
        Check.sentence("44: something of THE FLATS, or CARTS came (of an empty one: nothing)");
        RoadsWithTides x = three();
        x.keep(0);
        x.pass(1);
        Check.flats(x, "");
        Check.carts(x, "");
        Check.due("again", x.again(0), true);
        Check.due("NOW", x.count(3), 0);
    }

    private static void againRefusedOnesCame() {
        Check.sentence("44: something of THE FLATS, or CARTS came (of a refused one: nothing)");
        RoadsWithTides x = three();
        x.keep(0);
        x.pass(1);
        Check.flats(x, "p5;p");
        Check.carts(x, "a5;x");
        Check.tide(x, "x");
        Check.rule(x, "x");
        Check.due("again", x.again(0), true);
        Check.due("NOW", x.count(3), 0);
        Check.due("PLACES", x.count(0), 3);
        Check.due("CARTS", x.count(2), 2);
    }

    private static void againPutsBack() {
        Check.sentence("44: they (NOW, CARTS, between which PLACES ROADS are) are as they were kept");
        RoadsWithTides x = three();
        x.pass(8);
        x.out(0, 0);
        x.pass(4);
        String before = Check.stateOf(x);
        x.keep(1);
        x.chain(0, 1);
        x.load(1, 9);
        x.round(0);
        x.storm(1, 2, 0);
        x.pass(3);
        Check.due("again", x.again(1), true);
        Check.same("behind it", Check.stateOf(x), before);
    }

    private static void againLeavesTheRest() {
        Check.sentence("44: they are as they were kept (nothing else)");
        RoadsWithTides x = three();
        x.keep(0);
        x.patience(3);
        x.sheet(2, 3, 7, 1);
        Check.tide(x, "5*40");
        Check.rule(x, "11");
        x.mark(4, 5);
        x.ebb();
        x.sign(0);
        Check.due("again", x.again(0), true);
        Check.due("PATIENCE", x.count(7), 3);
        Check.due("HEIGHT", x.road(1, 3), 8);
        Check.due("marks", x.count(9), 1);
        Check.due("THE TEXT", x.count(12), 4);
        Check.row("the ROW", x, 2, 0, 0);
        Check.due("LEVEL", x.level(2), 32);
        Check.due("THE RULE", x.road(0, 6), 11);
    }

    private static void againAsOftenAsOneLikes() {
        Check.sentence("44: as they were kept under a number (again)");
        RoadsWithTides x = three();
        x.pass(2);
        x.keep(0);
        for (int i = 0; i < 3; i++) {
            x.pass(5);
            x.load(0, i + 1);
            Check.due("again", x.again(0), true);
            Check.due("NOW", x.count(3), 2);
            Check.due("LOAD", x.cart(0, 4), 0);
        }
        Check.due("undo", x.undo(), -1);
        Check.due("again, though nothing was done", x.again(0), true);
    }

    private static void againRefusedChangesNothing() {
        Check.sentence("Terms 2: refused calls answer false, and change nothing: again()");
        RoadsWithTides x = three();
        x.keep(0);
        x.pass(3);
        x.ebb();
        String before = Check.seen(x);
        Check.due("again(1)", x.again(1), false);
        Check.due("again(-1)", x.again(-1), false);
        Check.same("behind it", Check.seen(x), before);
        Check.row("the ROW stays", x, 3, 0, 9);
        Check.due("undo", x.undo(), 0);
    }
}
