/** Promises 8 to 12, 45 and 46: what there is, PATIENCE, sheets, counts, the ROW. */
public final class ThingsTest {
    public static void main(String[] args) {
        places();
        roads();
        cartsAndCounts();
        patience();
        sheet();
        rows();
        Check.finish();
    }

    private static RoadsWithTides made() {
        return Check.made("p10;p50;p20;rab2-10;rbc3-5;rac9-15", "12*20", "a0;b5*;a2");
    }

    private static void places() {
        RoadsWithTides x = made();
        int[][] want = {{10, 5, 0, 5}, {50, 3, 0, 2}, {20, 6, 0, 0}};
        for (int p = 0; p < 3; p++) {
            for (int what = 0; what < 4; what++) {
                Check.due("place(" + p + ", " + what + ")", x.place(p, what), want[p][what]);
            }
        }
        x.pass(3);
        Check.due("THERE at level 10, a", x.place(0, 2), 1);
        Check.due("THERE at level 10, b", x.place(1, 2), 3);
        Check.due("THERE at level 10, c", x.place(2, 2), 2);
        x.out(0, 0);
        Check.due("carts at a", x.place(0, 3), 4);
        Check.noSuch("place(3, 0)", () -> x.place(3, 0));
        Check.noSuch("place(-1, 0)", () -> x.place(-1, 0));
        Check.noSuch("place(0, 4)", () -> x.place(0, 4));
        Check.noSuch("place(0, -1)", () -> x.place(0, -1));
        Check.noSuch("place(max, 0)", () -> x.place(Integer.MAX_VALUE, 0));
    }

    private static void roads() {
        RoadsWithTides x = made();
        int[][] want = {{0, 1, 2, 10, 0, 0, 4, 2}, {1, 2, 3, 5, 0, 0, 3, 4}, {0, 2, 9, 15, 0, 0, 9, 9}};
        for (int r = 0; r < 3; r++) {
            for (int what = 0; what < 8; what++) {
                Check.due("road(" + r + ", " + what + ")", x.road(r, what), want[r][what]);
            }
        }
        x.pass(3);
        Check.due("THERE at its own height", x.road(0, 4), 1);
        Check.due("not THERE", x.road(2, 4), 0);
        x.out(0, 0);
        x.out(1, 0);
        Check.due("carts on it", x.road(0, 5), 3);
        Check.noSuch("road(3, 0)", () -> x.road(3, 0));
        Check.noSuch("road(-1, 0)", () -> x.road(-1, 0));
        Check.noSuch("road(0, 8)", () -> x.road(0, 8));
        Check.noSuch("road(0, -1)", () -> x.road(0, -1));
    }

    private static void cartsAndCounts() {
        RoadsWithTides x = made();
        cartIs(x, 0, 0, -1, -1, 0, 0, 0, 0, 0);
        cartIs(x, 1, 1, -1, -1, 0, 5, 1, 0, 0);
        x.pass(3);
        x.out(0, 0);
        cartIs(x, 0, -1, 0, 1, 4, 0, 0, 0, 0);
        x.pass(1);
        cartIs(x, 0, -1, 0, 1, 3, 0, 0, 0, 0);
        Check.tide(x, "12*0");
        x.pass(2);
        cartIs(x, 0, -1, 0, 1, 3, 0, 0, 2, 0);
        Check.due("ROADS that are THERE", x.count(4), 0);
        x.pass(4);
        cartIs(x, 0, -1, 0, 1, 3, 0, 0, 6, 1);
        int[] want = {3, 3, 3, 10, 0, 1, 1, 6, 1, 0, 5, 3, 0};
        for (int what = 0; what < want.length; what++) {
            if (what != 10) {
                Check.due("count(" + what + ")", x.count(what), want[what]);
            }
        }
        x.mark(1, 1);
        Check.due("marks", x.count(9), 1);
        Check.tide(x, "12*20/6+5*5");
        Check.due("rounds", x.count(8), 2);
        Check.due("ROADS that are THERE at 10: level 13 + 0", x.count(4), 3);
        x.sign(0);
        Check.due("signs", x.count(12), 4);
        Check.due("count(13)", x.count(13), -1);
        Check.due("count(-1)", x.count(-1), -1);
        Check.noSuch("cart(3, 0)", () -> x.cart(3, 0));
        Check.noSuch("cart(-1, 0)", () -> x.cart(-1, 0));
        Check.noSuch("cart(0, 8)", () -> x.cart(0, 8));
        Check.noSuch("cart(0, -1)", () -> x.cart(0, -1));
    }

    private static void cartIs(RoadsWithTides x, int cart, int... want) {
        for (int what = 0; what < want.length; what++) {
            Check.due("cart(" + cart + ", " + what + ")", x.cart(cart, what), want[what]);
        }
    }

    private static void patience() {
        RoadsWithTides x = new RoadsWithTides();
        Check.due("patience(0)", x.patience(0), -1);
        Check.due("patience(21)", x.patience(21), -1);
        Check.due("patience(-5)", x.patience(-5), -1);
        Check.due("patience(1)", x.patience(1), 6);
        Check.due("patience(20)", x.patience(20), 1);
        Check.due("PATIENCE", x.count(7), 20);
    }

    private static void sheet() {
        RoadsWithTides x = made();
        Check.due("bytes", x.sheet(0, 3, 120, 5), 99 + 99 + 0);
        heights(x, 99, 99, 0);
        Check.due("bytes, the lowest bits", x.sheet(0, 3, 256 + 50, 128), 50 + 0 + 50);
        heights(x, 50, 0, 50);
        Check.due("shorts", x.sheet(1, 3, 65536 + 7, 32768), 7 + 0 + 7);
        heights(x, 7, 0, 7);
        Check.due("ints", x.sheet(2, 3, 65536, 1), 297);
        Check.due("ints that wrap", x.sheet(2, 3, Integer.MAX_VALUE, 1), 99);
        heights(x, 99, 0, 0);
        Check.due("fewer entries", x.sheet(2, 1, 30, 1), 30);
        heights(x, 30, 0, 0);
        Check.due("more entries", x.sheet(2, 12, 30, 1), 93);
        heights(x, 30, 31, 32);
        Check.due("no entries", x.sheet(2, 0, 30, 1), 0);
        heights(x, 0, 0, 0);
        x.sheet(2, 3, 40, -10);
        heights(x, 40, 30, 20);
        Check.due("n below 0", x.sheet(0, -1, 1, 1), -2);
        Check.due("n far below 0", x.sheet(2, Integer.MIN_VALUE, 1, 1), -2);
        Check.due("kind 4", x.sheet(4, 1, 1, 1), -1);
        Check.due("kind 4, n below 0", x.sheet(4, -1, 1, 1), -1);
        Check.due("kind -1", x.sheet(-1, 1, 1, 1), -1);
        Check.due("n 13", x.sheet(2, 13, 1, 1), -1);
        Check.due("missing, n 13", x.sheet(3, 13, 1, 1), -1);
        heights(x, 40, 30, 20);
        Check.due("missing, n below 0", x.sheet(3, -1, 1, 1), -3);
        heights(x, 0, 0, 0);
        x.sheet(2, 3, 40, -10);
        Check.due("missing", x.sheet(3, 2, 1, 1), -3);
        heights(x, 0, 0, 0);
        Check.due("no ROADS", new RoadsWithTides().sheet(2, 5, 1, 1), 0);
        RoadsWithTides y = made();
        y.pass(1);
        y.keep(0);
        y.sheet(2, 3, 1, 1);
        Check.due("a sheet leaves what can be undone", y.count(10), 1);
        y.undo();
        heights(y, 1, 2, 3);
        Check.due("a sheet leaves what is kept", y.again(0), true);
        heights(y, 1, 2, 3);
    }

    private static void heights(RoadsWithTides x, int... want) {
        for (int r = 0; r < want.length; r++) {
            Check.due("HEIGHT of road " + r, x.road(r, 3), want[r]);
        }
    }

    private static void rows() {
        RoadsWithTides x = made();
        x.ebb();
        Check.row("ebb()", x, 6, 0, 0);
        Check.noSuch("row(-1)", () -> x.row(-1));
        Check.noSuch("row(max)", () -> x.row(Integer.MAX_VALUE));
        x.level(121);
        x.table(9, 9);
        x.comes(9);
        x.soonest(0, 9);
        x.pass(100);
        x.inns(-1);
        x.fits(21);
        x.read(0, -1);
        x.years(1, 0);
        x.arrives(0);
        x.best(9, 9);
        x.within(0, 121);
        x.carrier(0, 8);
        x.lookat(-1);
        Check.row("refused calls leave the ROW", x, 6, 0, 0);
        x.cutoff(0);
        x.could(0, 5);
        x.latest(0, 1, 50);
        x.period();
        x.mark(0, 0);
        x.out(0, 0);
        x.undo();
        Check.row("calls that tell none leave the ROW", x, 6, 0, 0);
        x.soonest(0, 0);
        Check.row("a row of none", x);
    }
}
