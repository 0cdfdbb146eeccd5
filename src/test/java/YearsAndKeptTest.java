import java.util.Random;

/** Promises 42 to 44: years of storms against doing them one by one, and what is kept. */
public final class YearsAndKeptTest {
    private static int drawn;

    public static void main(String[] args) {
        refused();
        Random random = new Random(4);
        for (int run = 0; run < 200; run++) {
            compare(random);
        }
        kept();
        Check.finish();
    }

    private static void refused() {
        RoadsWithTides x = new RoadsWithTides();
        x.ebb();
        Check.due("n 0, no PLACES", x.years(1, 0), -1);
        Check.due("n 41, no PLACES", x.years(1, 41), -1);
        Check.due("n -1", x.years(1, -1), -1);
        Check.due("no PLACES", x.years(1, 1), -2);
        Check.flats(x, "p1");
        Check.due("one PLACE", x.years(1, 40), -2);
        Check.flats(x, "p1");
        Check.due("no ROADS", x.years(1, 40), -2);
        Check.row("the ROW stays", x, 6, 0, 0);
        Check.flats(x, "rab1-1");
        Check.due("no CARTS", x.years(1, 40), 0);
        Check.row("no CARTS", x, 0, 0);
    }

    private static int draw(int n) {
        drawn = drawn * 1103515245 + 12345;
        return (int) ((drawn & 0xffffffffL) / 65536 % n);
    }

    private static void compare(Random random) {
        RoadsWithTides x = Check.made("p10;p50;p20;rab2-10;rbc3-5;rac9-12;rab5-19", "12*20+7*" + random.nextInt(9), "a0;b5*;c3;a9;b1");
        x.patience(1 + random.nextInt(8));
        for (int i = 0; i < 10; i++) {
            x.out(random.nextInt(5), random.nextInt(4));
            x.pass(random.nextInt(4));
        }
        int seed = random.nextInt();
        int n = 1 + random.nextInt(40);
        String before = Check.seen(x);
        int got = x.years(seed, n);
        int[] row = Check.rowOf(x);
        Check.same("years change nothing", Check.seen(x), before);
        drawn = seed;
        int came = 0;
        int wrecked = Integer.bitCount(x.count(6));
        int still = 0;
        for (int i = 0; i < n; i++) {
            int road = draw(4);
            int one = draw(3);
            int other = draw(3);
            other = one == other ? (other + 1) % 3 : other;
            still += x.storm(road, one, other) < 0 ? 1 : 0;
            came += x.pass(draw(12));
        }
        wrecked = Integer.bitCount(x.count(6)) - wrecked;
        Check.due("years", got, came);
        Check.due("numbers of the ROW", row.length, 2);
        Check.due("WRECKED", row[0], wrecked);
        Check.due("threw nothing", row[1], still);
    }

    private static void kept() {
        RoadsWithTides x = Check.made("p10;p50;p20;rab2-10;rbc3-5;rac9-15", "12*20", "a0;b5*");
        Check.due("again, nothing kept", x.again(0), false);
        Check.due("keep(2)", x.keep(2), false);
        Check.due("keep(-1)", x.keep(-1), false);
        Check.due("again(2)", x.again(2), false);
        Check.due("again(-1)", x.again(-1), false);
        x.pass(3);
        x.out(0, 0);
        x.patience(9);
        String zero = Check.seen(x);
        Check.due("keep(0)", x.keep(0), true);
        Check.due("again(1)", x.again(1), false);
        Check.due("keep changes nothing", Check.seen(x).equals(zero), true);
        x.pass(5);
        x.load(0, 7);
        x.chain(1, 0);
        x.storm(2, 1, 2);
        Check.due("keep(1)", x.keep(1), true);
        Check.due("again(0)", x.again(0), true);
        Check.due("NOW", x.count(3), 3);
        Check.due("LEFT", x.cart(0, 3), 4);
        Check.due("CHAINED", x.cart(1, 5), 1);
        Check.due("the first", x.road(2, 0), 0);
        Check.due("what can be undone", x.count(10), 0);
        Check.due("again(1)", x.again(1), true);
        Check.due("NOW", x.count(3), 8);
        Check.due("LOAD", x.cart(0, 4), 7);
        Check.due("CHAINED", x.cart(1, 5), 0);
        Check.due("the first", x.road(2, 0), 1);
        Check.due("again and again", x.again(0) && x.again(0), true);
        x.patience(4);
        x.sheet(2, 3, 1, 1);
        Check.tide(x, "5*5");
        Check.rule(x, "7");
        Check.due("again", x.again(0), true);
        Check.due("PATIENCE is not kept", x.count(7), 4);
        Check.due("HEIGHT is not kept", x.road(2, 3), 3);
        Check.due("THE RULE is not kept", x.road(2, 6), 7);
        Check.due("THE TIDE is not kept", x.ebb(), 4);
        Check.flats(x, "");
        Check.carts(x, "");
        Check.flats(x, "rab");
        Check.carts(x, "a");
        x.pass(1);
        Check.due("again", x.again(0), true);
        Check.carts(x, "a1");
        x.pass(1);
        Check.due("CARTS came since", x.again(0), false);
        Check.due("CARTS came since", x.again(1), false);
        Check.due("refused: it can be undone yet", x.count(10), 1);
        Check.due("keep anew", x.keep(1), true);
        Check.due("again anew", x.again(1), true);
        Check.due("the other is kept no more", x.again(0), false);
        Check.flats(x, "rab1-5");
        Check.due("something of THE FLATS came since", x.again(1), false);
    }
}
