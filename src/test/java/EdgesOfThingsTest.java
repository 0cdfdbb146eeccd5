/**
 * The edges of promises 8 to 12, 45 and 46 (what there is, PATIENCE, sheets, counts, the ROW), and of the
 * sentences of Terms that they rest on: for each sentence that names one, a method of its own.
 */
public final class EdgesOfThingsTest {
    private static final int[] FAR_OUT = {-1, -2, Integer.MIN_VALUE, Integer.MAX_VALUE};

    public static void main(String[] args) {
        placeNoneSuch();
        placeAnotherWhat();
        placeWithoutRoadsOrCarts();
        roadNoneSuch();
        roadAnotherWhat();
        roadThereAtItsHeight();
        roadWithoutCarts();
        cartNoneSuch();
        cartAnotherWhat();
        cartAtAPlace();
        cartOnARoad();
        cartWrecked();
        patienceRefused();
        patienceAtItsEnds();
        sheetBytes();
        sheetShorts();
        sheetInts();
        sheetPutToBounds();
        sheetThoseBehind();
        sheetEntriesBeyond();
        sheetOfNone();
        sheetBelowZero();
        sheetMissing();
        sheetAnotherKind();
        sheetAboveTwelve();
        sheetTheseFirst();
        sheetIsThereAtOnce();
        countAnotherWhat();
        countsAtTheirMost();
        rowNoneSuch();
        rowIsToldLast();
        rowOfNone();
        Check.finish();
    }

    private static RoadsWithTides three() {
        return Check.made("p10;p50;p20;rab2-10;rbc3-5;rac9-15", "12*20", "a0;b5*;a2");
    }

    private static void heights(RoadsWithTides x, int... want) {
        for (int r = 0; r < want.length; r++) {
            Check.due("HEIGHT of ROAD " + r, x.road(r, 3), want[r]);
        }
    }

    private static void placeNoneSuch() {
        Check.sentence("8: NoSuchElementException: none such");
        RoadsWithTides x = three();
        Check.noSuch("place(3, 0)", () -> x.place(3, 0));
        for (int p : FAR_OUT) {
            Check.noSuch("place(" + p + ", 0)", () -> x.place(p, 0));
        }
        Check.due("the last", x.place(2, 0), 20);
        RoadsWithTides y = Check.made("p1;p2;p3;p4;p5;p6;p7;p8", "12*20", "");
        Check.due("the eighth", y.place(7, 0), 8);
        Check.noSuch("place(8, 0)", () -> y.place(8, 0));
        Check.noSuch("none such, another what", () -> y.place(8, 9));
    }

    private static void placeAnotherWhat() {
        Check.sentence("8: NoSuchElementException: another what");
        RoadsWithTides x = three();
        Check.noSuch("place(0, 4)", () -> x.place(0, 4));
        for (int what : FAR_OUT) {
            Check.noSuch("place(0, " + what + ")", () -> x.place(0, what));
        }
        Check.due("what 3", x.place(0, 3), 5);
    }

    private static void placeWithoutRoadsOrCarts() {
        Check.sentence("8: ROADS that end there, those that are THERE now, CARTS at it: none of them");
        RoadsWithTides x = Check.made("p1;p2;p3;rab1-1", "12*20", "a0");
        for (int what = 1; what <= 3; what++) {
            Check.due("place(2, " + what + ")", x.place(2, what), 0);
        }
        Check.due("a ROAD that is not THERE", x.place(0, 1), 1);
        Check.due("a ROAD that is not THERE", x.place(0, 2), 0);
        x.pass(1);
        Check.due("it is THERE", x.place(0, 2), 1);
        x.out(0, 0);
        Check.due("the CART has left", x.place(0, 3), 0);
        Check.due("the CART is not yet at the other", x.place(1, 3), 0);
        RoadsWithTides y = Check.made("p1;p2;p3;rab1-1", "12*20", "");
        y.storm(0, 1, 2);
        Check.due("a ROAD that was thrown away", y.place(0, 1), 0);
        Check.due("a ROAD that was thrown here", y.place(2, 1), 1);
    }

    private static void roadNoneSuch() {
        Check.sentence("9: NoSuchElementException: none such");
        RoadsWithTides x = three();
        Check.noSuch("road(3, 0)", () -> x.road(3, 0));
        for (int r : FAR_OUT) {
            Check.noSuch("road(" + r + ", 0)", () -> x.road(r, 0));
        }
        Check.due("the last", x.road(2, 2), 9);
        Check.noSuch("none such, another what", () -> x.road(3, 8));
    }

    private static void roadAnotherWhat() {
        Check.sentence("9: NoSuchElementException: another what");
        RoadsWithTides x = three();
        Check.noSuch("road(0, 8)", () -> x.road(0, 8));
        for (int what : FAR_OUT) {
            Check.noSuch("road(0, " + what + ")", () -> x.road(0, what));
        }
        Check.due("what 7", x.road(0, 7), 2);
        Check.due("what 6", x.road(0, 6), 4);
    }

    private static void roadThereAtItsHeight() {
        Check.sentence("Terms 1: a ROAD is THERE, if LEVEL is its HEIGHT or more");
        RoadsWithTides x = Check.made("p1;p2;rab1-9;rab1-10;rab1-11;rab1-0;rab1-20;rab1-21", "12*20", "");
        Check.due("at LEVEL 0, of HEIGHT 0 alone", x.count(4), 8);
        x.pass(3);
        Check.due("at LEVEL 10, of HEIGHT 9", x.road(0, 4), 1);
        Check.due("at LEVEL 10, of HEIGHT 10", x.road(1, 4), 1);
        Check.due("at LEVEL 10, of HEIGHT 11", x.road(2, 4), 0);
        Check.due("count(4)", x.count(4), 1 + 2 + 8);
        x.pass(3);
        Check.due("at LEVEL 20", x.count(4), 1 + 2 + 4 + 8 + 16);
    }

    private static void roadWithoutCarts() {
        Check.sentence("9: CARTS on it: none, all");
        RoadsWithTides x = Check.made("p1;p2;rab3-0;rab3-0", "12*20", "a0;a0;b0;b0;a0");
        Check.due("none", x.road(0, 5), 0);
        for (int c = 0; c < 5; c++) {
            x.out(c, 0);
        }
        Check.due("all", x.road(0, 5), 31);
        Check.due("none on the other", x.road(1, 5), 0);
        x.pass(3);
        Check.due("none again", x.road(0, 5), 0);
    }

    private static void cartNoneSuch() {
        Check.sentence("10: NoSuchElementException: none such (likewise)");
        RoadsWithTides x = three();
        Check.noSuch("cart(3, 0)", () -> x.cart(3, 0));
        for (int c : FAR_OUT) {
            Check.noSuch("cart(" + c + ", 0)", () -> x.cart(c, 0));
        }
        Check.due("the last", x.cart(2, 4), 2);
        RoadsWithTides y = Check.made("p1", "12*20", "a0;a1;a2;a3;a4");
        Check.due("the fifth", y.cart(4, 4), 4);
        Check.noSuch("cart(5, 0)", () -> y.cart(5, 0));
        Check.noSuch("none such, another what", () -> y.cart(5, 8));
    }

    private static void cartAnotherWhat() {
        Check.sentence("10: NoSuchElementException: another what (likewise)");
        RoadsWithTides x = three();
        Check.noSuch("cart(0, 8)", () -> x.cart(0, 8));
        for (int what : FAR_OUT) {
            Check.noSuch("cart(0, " + what + ")", () -> x.cart(0, what));
        }
        Check.due("what 7", x.cart(0, 7), 0);
    }

    private static void cartIs(RoadsWithTides x, int cart, int... want) {
        for (int what = 0; what < want.length; what++) {
            Check.due("cart(" + cart + ", " + what + ")", x.cart(cart, what), want[what]);
        }
    }

    private static void cartAtAPlace() {
        Check.sentence("10: at a PLACE: the ROAD (NONE), to which it goes (NONE), TURNS LEFT (0), CUT 0");
        RoadsWithTides x = three();
        cartIs(x, 1, 1, -1, -1, 0, 5, 1, 0, 0);
        x.pass(9);
        x.out(1, 0);
        x.pass(4);
        Check.due("CUT on the way", x.cart(1, 6), 3);
        x.pass(3);
        cartIs(x, 1, 0, -1, -1, 0, 5, 1, 0, 0);
    }

    private static void cartOnARoad() {
        Check.sentence("10: the PLACE (NONE: on a ROAD)");
        RoadsWithTides x = three();
        x.pass(9);
        x.out(0, 0);
        cartIs(x, 0, -1, 0, 1, 4, 0, 0, 0, 0);
        x.pass(1);
        cartIs(x, 0, -1, 0, 1, 3, 0, 0, 0, 0);
        x.pass(2);
        cartIs(x, 0, -1, 0, 1, 3, 0, 0, 2, 0);
    }

    private static void cartWrecked() {
        Check.sentence("10: 1 if WRECKED; Terms 1: it stays on the ROAD");
        RoadsWithTides x = three();
        x.patience(1);
        x.pass(9);
        x.out(0, 0);
        x.pass(2);
        cartIs(x, 0, -1, 0, 1, 3, 0, 0, 1, 1);
        x.pass(99);
        cartIs(x, 0, -1, 0, 1, 3, 0, 0, 1, 1);
    }

    private static void patienceRefused() {
        Check.sentence("11: refused: others than 1 .. 20");
        RoadsWithTides x = new RoadsWithTides();
        for (int v : new int[] {0, 21, -1, -6, 100, Integer.MIN_VALUE, Integer.MAX_VALUE}) {
            Check.due("patience(" + v + ")", x.patience(v), -1);
            Check.due("PATIENCE", x.count(7), 6);
        }
    }

    private static void patienceAtItsEnds() {
        Check.sentence("11: PATIENCE becomes v (1 .. 20): what it was (at first 6)");
        RoadsWithTides x = new RoadsWithTides();
        Check.due("patience(20)", x.patience(20), 6);
        Check.due("count(7)", x.count(7), 20);
        Check.due("patience(1)", x.patience(1), 20);
        Check.due("count(7)", x.count(7), 1);
        Check.due("patience(1)", x.patience(1), 1);
    }

    private static void sheetBytes() {
        Check.sentence("12: of bytes the lowest bits, with their sign");
        RoadsWithTides x = three();
        Check.due("127", x.sheet(0, 1, 127, 0), 99);
        Check.due("128 is -128", x.sheet(0, 1, 128, 0), 0);
        Check.due("255 is -1", x.sheet(0, 1, 255, 0), 0);
        Check.due("256 is 0", x.sheet(0, 1, 256, 0), 0);
        Check.due("257 is 1", x.sheet(0, 1, 257, 0), 1);
        Check.due("-1", x.sheet(0, 1, -1, 0), 0);
        Check.due("-200 is 56", x.sheet(0, 1, -200, 0), 56);
        Check.due("50, 178, 306: the second is -78", x.sheet(0, 3, 50, 128), 100);
        heights(x, 50, 0, 50);
        Check.due("120, 125, 130: the third is -126", x.sheet(0, 3, 120, 5), 198);
        heights(x, 99, 99, 0);
        Check.due("steps that wrap", x.sheet(0, 3, 7, Integer.MIN_VALUE), 21);
    }

    private static void sheetShorts() {
        Check.sentence("12: of shorts the lowest bits, with their sign");
        RoadsWithTides x = three();
        Check.due("32767", x.sheet(1, 1, 32767, 0), 99);
        Check.due("32768 is -32768", x.sheet(1, 1, 32768, 0), 0);
        Check.due("65535 is -1", x.sheet(1, 1, 65535, 0), 0);
        Check.due("65536 is 0", x.sheet(1, 1, 65536, 0), 0);
        Check.due("65543 is 7", x.sheet(1, 1, 65543, 0), 7);
        Check.due("128 is 128", x.sheet(1, 1, 128, 0), 99);
        Check.due("306 is 306", x.sheet(1, 1, 306, 0), 99);
        Check.due("-65500 is 36", x.sheet(1, 1, -65500, 0), 36);
        Check.due("7, 32775, 65543: the second is below 0", x.sheet(1, 3, 7, 32768), 14);
        heights(x, 7, 0, 7);
    }

    private static void sheetInts() {
        Check.sentence("12: ints f, f + step, .. (wrap-around)");
        RoadsWithTides x = three();
        Check.due("65543 is 65543", x.sheet(2, 1, 65543, 0), 99);
        Check.due("the greatest, and 1 more is the least", x.sheet(2, 2, Integer.MAX_VALUE, 1), 99);
        heights(x, 99, 0, 0);
        Check.due("the least, and 1 less is the greatest", x.sheet(2, 2, Integer.MIN_VALUE, -1), 99);
        heights(x, 0, 99, 0);
        Check.due("the least twice is 0: 5, .., 5", x.sheet(2, 3, 5, Integer.MIN_VALUE), 10);
        heights(x, 5, 0, 5);
        Check.due("down", x.sheet(2, 3, 20, -15), 25);
        heights(x, 20, 5, 0);
    }

    private static void sheetPutToBounds() {
        Check.sentence("12: put to 0 .. 99");
        for (int kind = 0; kind <= 2; kind++) {
            RoadsWithTides x = three();
            Check.due("98, 99, 100", x.sheet(kind, 3, 98, 1), 98 + 99 + 99);
            heights(x, 98, 99, 99);
            Check.due("-1, 0, 1", x.sheet(kind, 3, -1, 1), 1);
            heights(x, 0, 0, 1);
        }
    }

    private static void sheetThoseBehind() {
        Check.sentence("12: those behind it have 0");
        RoadsWithTides x = three();
        Check.due("two entries of three", x.sheet(2, 2, 30, 1), 61);
        heights(x, 30, 31, 0);
        Check.due("one entry of three", x.sheet(2, 1, 40, 1), 40);
        heights(x, 40, 0, 0);
    }

    private static void sheetEntriesBeyond() {
        Check.sentence("12: the sum of all that there are (entries beyond them are left aside)");
        RoadsWithTides x = three();
        Check.due("three entries of three", x.sheet(2, 3, 30, 1), 93);
        Check.due("four entries of three", x.sheet(2, 4, 31, 1), 96);
        Check.due("twelve entries of three", x.sheet(2, 12, 30, 1), 93);
        heights(x, 30, 31, 32);
        Check.due("one more ROAD", Check.flats(x, "rab1-7"), 1);
        heights(x, 30, 31, 32, 7);
        Check.due("no ROADS", new RoadsWithTides().sheet(2, 12, 30, 1), 0);
    }

    private static void sheetOfNone() {
        Check.sentence("12: n entries: none");
        for (int kind = 0; kind <= 2; kind++) {
            RoadsWithTides x = three();
            Check.due("sheet", x.sheet(kind, 0, 30, 1), 0);
            heights(x, 0, 0, 0);
        }
    }

    private static void sheetBelowZero() {
        Check.sentence("12: -2: n below 0 (of kinds 0 .. 2; nothing changes)");
        for (int kind = 0; kind <= 2; kind++) {
            RoadsWithTides x = three();
            Check.due("n -1", x.sheet(kind, -1, 30, 1), -2);
            Check.due("n, the least", x.sheet(kind, Integer.MIN_VALUE, 30, 1), -2);
            heights(x, 10, 5, 15);
        }
    }

    private static void sheetMissing() {
        Check.sentence("12: a missing one (3): -3: missing (all 0)");
        for (int n : new int[] {0, 3, 12, -1, Integer.MIN_VALUE}) {
            RoadsWithTides x = three();
            Check.due("n " + n, x.sheet(3, n, 30, 1), -3);
            heights(x, 0, 0, 0);
        }
        Check.due("no ROADS", new RoadsWithTides().sheet(3, 0, 1, 1), -3);
    }

    private static void sheetAnotherKind() {
        Check.sentence("12: NONE: another kind");
        RoadsWithTides x = three();
        for (int kind : new int[] {4, 5, -1, -3, Integer.MIN_VALUE, Integer.MAX_VALUE}) {
            Check.due("kind " + kind, x.sheet(kind, 1, 30, 1), -1);
            heights(x, 10, 5, 15);
        }
    }

    private static void sheetAboveTwelve() {
        Check.sentence("12: NONE: n above 12");
        RoadsWithTides x = three();
        for (int kind = 0; kind <= 3; kind++) {
            Check.due("n 13", x.sheet(kind, 13, 30, 1), -1);
            Check.due("n, the greatest", x.sheet(kind, Integer.MAX_VALUE, 30, 1), -1);
            heights(x, 10, 5, 15);
        }
        RoadsWithTides y = Check.made("p1;p2;rab1-5;rab1-5;rab1-5;rab1-5;rab1-5;rab1-5;rab1-5;rab1-5;rab1-5", "12*20", "");
        Check.flats(y, "rab1-5;rab1-5;rab1-5");
        Check.due("n 12 of 12", y.sheet(2, 12, 1, 1), 78);
        Check.due("the twelfth", y.road(11, 3), 12);
        Check.due("n 11 of 12", y.sheet(2, 11, 1, 1), 66);
        Check.due("the twelfth", y.road(11, 3), 0);
    }

    private static void sheetTheseFirst() {
        Check.sentence("12: NONE: another kind, n above 12 (these first)");
        RoadsWithTides x = three();
        Check.due("another kind, n below 0", x.sheet(4, -1, 30, 1), -1);
        Check.due("another kind below, n below 0", x.sheet(-1, -1, 30, 1), -1);
        Check.due("missing, n above 12", x.sheet(3, 13, 30, 1), -1);
        heights(x, 10, 5, 15);
    }

    private static void sheetIsThereAtOnce() {
        Check.sentence("12: HEIGHTS of ROADS, as a sheet tells them");
        RoadsWithTides x = three();
        Check.due("none is THERE", x.count(4), 0);
        x.sheet(2, 3, -1, 1);
        Check.due("two of them are THERE", x.count(4), 3);
        x.sheet(3, 0, 0, 0);
        Check.due("all are THERE", x.count(4), 7);
        Check.due("it is not undone", x.undo(), -1);
    }

    private static void countAnotherWhat() {
        Check.sentence("45: NONE for another what");
        RoadsWithTides x = three();
        for (int what : new int[] {13, 14, 99, -1, -2, Integer.MIN_VALUE, Integer.MAX_VALUE}) {
            Check.due("count(" + what + ")", x.count(what), -1);
        }
        Check.due("count(12)", x.count(12), 0);
    }

    private static void countsAtTheirMost() {
        Check.sentence("45: what is full is counted wholly");
        RoadsWithTides x = Check.made("p0;p0;p0;p0;p0;p0;p0;p0", "2*0+2*0+2*0", "a0;a0;a0;a0;a0");
        Check.flats(x, "rab1-0;rab1-0;rab1-0;rab1-0;rab1-0;rab1-0;rab1-0;rab1-0;rab1-0;rab1-0");
        Check.flats(x, "rab1-0;rab2-9");
        x.patience(20);
        for (int c = 0; c < 5; c++) {
            x.out(c, 0);
        }
        for (int i = 0; i < 10; i++) {
            x.mark(i, i);
            x.sign(i);
            x.sign(i);
        }
        int[] want = {8, 12, 5, 0, 2047, 31, 0, 20, 3, 10, 5, 0, 80};
        for (int what = 0; what < want.length; what++) {
            Check.due("count(" + what + ")", x.count(what), want[what]);
        }
        x.sheet(2, 1, 9, 0);
        x.patience(1);
        x.pass(99);
        Check.due("all are WRECKED", x.count(6), 31);
        Check.due("all are on ROADS yet", x.count(5), 31);
        Check.due("but the first, all ROADS are THERE", x.count(4), 4094);
        Check.due("numbers of the ROW", x.count(11), 3);
        Check.due("NOW", x.count(3), 99);
    }

    private static void rowNoneSuch() {
        Check.sentence("46: NoSuchElementException: none such");
        RoadsWithTides x = three();
        Check.noSuch("a ROW of none: row(0)", () -> x.row(0));
        x.ebb();
        Check.due("row(0)", x.row(0), 6);
        Check.due("row(2)", x.row(2), 0);
        Check.noSuch("row(3)", () -> x.row(3));
        for (int i : FAR_OUT) {
            Check.noSuch("row(" + i + ")", () -> x.row(i));
        }
        x.level(0);
        Check.noSuch("a shorter ROW behind a longer one: row(1)", () -> x.row(1));
    }

    private static void rowIsToldLast() {
        Check.sentence("Terms 2: ROW: numbers told last by a call that says so");
        RoadsWithTides x = three();
        x.table(0, 12);
        Check.row("of table", x, 3, 9, 7, 3);
        x.period();
        x.cutoff(0);
        x.could(0, 0);
        x.latest(0, 1, 100);
        x.patience(7);
        x.sheet(2, 3, 9, 1);
        x.out(0, 0);
        x.chain(0, 1);
        x.load(0, 1);
        x.storm(2, 1, 2);
        x.undo();
        x.keep(0);
        x.again(0);
        x.mark(1, 1);
        x.wash();
        x.count(11);
        x.place(0, 0);
        x.sign(0);
        x.end(0);
        x.flats();
        x.carts();
        x.rule();
        x.tide();
        Check.row("of table yet, though others that tell none were called", x, 3, 9, 7, 3);
        x.slack();
        Check.row("of slack", x, -1, 0);
    }

    private static void rowOfNone() {
        Check.sentence("Terms 2: ROW: a call that tells no numbers");
        RoadsWithTides x = three();
        x.ebb();
        Check.due("to the same", x.soonest(1, 1), 0);
        Check.row("to the same", x);
        x.ebb();
        Check.due("to none", x.carrier(1, 0), 0);
        Check.row("to none", x);
        x.ebb();
        x.mark(0, 99);
        Check.due("none fit", x.fits(0), 0);
        Check.row("none fit", x);
    }
}
