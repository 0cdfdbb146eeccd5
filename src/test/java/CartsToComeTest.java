import java.util.Random;

/** Promises 34 to 36: what is foreseen of carts against letting the TURNS go by. */
public final class CartsToComeTest {
    public static void main(String[] args) {
        arrives();
        best();
        could();
        Random random = new Random(3);
        for (int run = 0; run < 150; run++) {
            compare(random);
        }
        Check.finish();
    }

    private static void arrives() {
        RoadsWithTides x = Check.made("p0;p0;rab2-10;rab9-20", "12*20", "a0;b5*;a1");
        Check.due("at a PLACE", x.arrives(0), -1);
        Check.due("no such", x.arrives(3), -1);
        Check.due("no such", x.arrives(-1), -1);
        x.pass(9);
        x.out(0, 0);
        x.out(1, 0);
        x.level(0);
        Check.due("arrives", x.arrives(0), 7);
        Check.row("arrives", x, 5);
        x.patience(5);
        Check.due("WRECKED", x.arrives(0), -2);
        Check.row("WRECKED", x, 6);
        Check.due("chained", x.arrives(1), 7);
        x.pass(3);
        Check.due("WRECKED, being CUT", x.arrives(0), -2);
        Check.row("WRECKED, being CUT", x, 3);
        x.pass(3);
        Check.due("WRECKED already", x.arrives(0), -2);
        Check.row("WRECKED already", x, 0);
        x.undo();
        Check.tide(x, "12*9");
        Check.due("chained, and never", x.arrives(1), -2);
        Check.row("chained, and never", x, -1);
        RoadsWithTides y = Check.made("p0;p0;rab1-0;rab9-20", "12*20", "a0*");
        Check.rule(y, "11-r");
        y.pass(6);
        Check.due("out by the high one", y.out(0, 1), 10);
        Check.due("9 more tides: 108 and the turn itself", y.arrives(0), 109);
        Check.row("9 more tides", y, 99);
        y.undo();
        Check.rule(y, "11");
        y.out(0, 1);
        Check.due("10 more tides: behind 120", y.arrives(0), -2);
        Check.row("10 more tides", y, -1);
        y.pass(1);
        Check.due("120 from now", y.arrives(0), 120);
        Check.row("120 from now", y, 110);
    }

    private static void best() {
        RoadsWithTides x = Check.made("p10;p50;p20;rab2-10;rbc3-5;rac9-15", "12*20", "a0;b5*;a3*");
        Check.due("the other end is elsewhere", x.best(0, 1), -3);
        Check.due("no such cart", x.best(3, 0), -1);
        Check.due("no such cart", x.best(-1, 0), -1);
        Check.due("no such road", x.best(0, 3), -1);
        Check.due("no such road", x.best(0, -1), -1);
        Check.due("best", x.best(0, 0), 3);
        Check.row("best", x, 0, 7);
        Check.due("by none", x.best(0, 2), -2);
        Check.row("by none: the ROW stays", x, 0, 7);
        Check.due("chained", x.best(2, 2), 5);
        Check.row("chained", x, 18, 32);
        Check.rule(x, "l+1");
        Check.due("by LOAD", x.best(2, 0), 3);
        Check.row("by LOAD", x, 0, 7);
        x.pass(3);
        x.out(0, 0);
        Check.due("on a road", x.best(0, 0), -1);
        Check.due("on a road, by one that ends elsewhere", x.best(0, 1), -1);
        RoadsWithTides y = Check.made("p0;p0;rab1-20", "60*20/29", "a0*");
        Check.due("in 1", y.best(0, 0), 1);
        Check.rule(y, "2");
        Check.due("two tides", y.best(0, 0), 1);
        Check.row("two tides", y, 59, 62);
        Check.rule(y, "3");
        Check.due("three tides are 121", y.best(0, 0), -2);
        RoadsWithTides z = Check.made("p0;p0;rab1-20", "60*20/28", "a0");
        z.pass(3);
        Check.due("it comes in 59", z.best(0, 0), 59);
        z.undo();
        z.pass(2);
        Check.due("now", z.best(0, 0), 0);
        RoadsWithTides w = Check.made("p0;p0;rab1-40", "60*20+59*20", "a0");
        Check.due("not in 0 .. 60", w.best(0, 0), -2);
        RoadsWithTides v = Check.made("p0;p0;rab1-20", "22*10+14*10", "a0");
        v.pass(16);
        Check.due("in 61", v.best(0, 0), -2);
        v.pass(1);
        Check.due("in 60", v.best(0, 0), 60);
        Check.row("in 60", v, 0, 61);
    }

    private static void could() {
        RoadsWithTides x = Check.made("p10;p50;p20;rab2-10;rbc3-5;rac9-15", "12*20", "a0;b5*");
        Check.due("now", x.could(0, 0), 1);
        Check.due("no such", x.could(3, 0), -1);
        Check.due("no such", x.could(-1, 0), -1);
        Check.due("n -1", x.could(0, -1), -1);
        Check.due("n 121", x.could(0, 121), -1);
        x.pass(9);
        x.out(1, 0);
        x.pass(1);
        Check.due("when it arrives", x.could(0, 6), 3);
        Check.due("ahead of that", x.could(0, 5), 1);
        Check.due("where it came from: there and back", x.could(1, 9), 1);
        Check.due("there and back", x.could(1, 120), 3);
        Check.rule(x, "s+l");
        Check.due("ways are without LOAD", x.could(0, 6), 3);
        x.patience(2);
        x.chain(1, 0);
        Check.due("it will be WRECKED", x.could(0, 120), 1);
    }

    private static void compare(Random random) {
        StringBuilder flats = new StringBuilder("p" + random.nextInt(100) + ";p" + random.nextInt(100) + ";p" + random.nextInt(100));
        for (int r = 0; r < 4; r++) {
            int one = random.nextInt(3);
            int other = (one + 1 + random.nextInt(2)) % 3;
            flats.append(";r").append((char) ('a' + one)).append((char) ('a' + other)).append(1 + random.nextInt(9));
            flats.append('-').append(random.nextInt(45));
        }
        String tide = (2 + random.nextInt(40)) + "*" + random.nextInt(61) + "+" + (2 + random.nextInt(20)) + "*" + random.nextInt(21);
        RoadsWithTides x = Check.made(flats.toString(), tide, "a0;b4*;c9;a3");
        x.patience(1 + random.nextInt(20));
        if (random.nextBoolean()) {
            Check.rule(x, "s+l/2+(u>0)*u/20");
        }
        for (int i = 0; i < 12; i++) {
            int cart = random.nextInt(4);
            int road = random.nextInt(4);
            compareBest(x, flats + " " + tide, cart, road);
            x.out(cart, road);
            x.pass(random.nextInt(4));
        }
        for (int cart = 0; cart < 4; cart++) {
            compareArrives(x, flats + " " + tide, cart);
        }
        compareCould(x, flats + " " + tide, random.nextInt(3), random.nextInt(121));
    }

    private static void compareArrives(RoadsWithTides x, String name, int cart) {
        if (x.cart(cart, 1) < 0) {
            Check.due(name + ": at a PLACE", x.arrives(cart), -1);
            return;
        }
        int road = x.cart(cart, 1);
        x.keep(0);
        int missed = 0;
        int came = -2;
        int wrecked = x.cart(cart, 7) == 1 ? 0 : -1;
        for (int k = 1; k <= 120 && came < 0 && wrecked < 0; k++) {
            missed += x.road(road, 4) == 1 ? 0 : 1;
            x.pass(1);
            came = x.cart(cart, 0) >= 0 ? k : came;
            wrecked = x.cart(cart, 7) == 1 ? k : wrecked;
        }
        x.again(0);
        Check.due(name + ": arrives", x.arrives(cart), came);
        Check.row(name + ": arrives", x, came < 0 ? wrecked : missed);
    }

    private static void compareBest(RoadsWithTides x, String name, int cart, int road) {
        int from = x.cart(cart, 0);
        if (from < 0 || x.road(road, 0) != from && x.road(road, 1) != from) {
            Check.due(name + ": best", x.best(cart, road), from < 0 ? -1 : -3);
            return;
        }
        int best = -2;
        int least = 999;
        int soonest = 999;
        x.keep(0);
        for (int t = 0; t <= 60; t++) {
            x.keep(1);
            if (x.out(cart, road) > 0) {
                int missed = 0;
                int came = -1;
                for (int k = 1; k <= 120 && came < 0; k++) {
                    missed += x.road(road, 4) == 1 ? 0 : 1;
                    x.pass(1);
                    came = x.cart(cart, 0) >= 0 ? t + k : came;
                }
                if (came >= 0 && (missed < least || missed == least && came < soonest)) {
                    best = t;
                    least = missed;
                    soonest = came;
                }
            }
            x.again(1);
            x.pass(1);
        }
        x.again(0);
        Check.due(name + ": best", x.best(cart, road), best);
        if (best >= 0) {
            Check.row(name + ": best", x, least, soonest);
        }
    }

    private static void compareCould(RoadsWithTides x, String name, int place, int n) {
        int bits = 0;
        for (int cart = 0; cart < 4; cart++) {
            int from = x.cart(cart, 0);
            int lost = 0;
            x.keep(0);
            if (from < 0) {
                from = x.cart(cart, 2);
                lost = x.arrives(cart);
                if (lost > 0) {
                    x.pass(Math.min(99, lost));
                    x.pass(lost - Math.min(99, lost));
                }
            }
            int way = x.soonest(from, place);
            bits |= lost >= 0 && way >= 0 && lost + way <= n ? 1 << cart : 0;
            x.again(0);
        }
        Check.due(name + ": could " + place + " in " + n, x.could(place, n), bits);
    }
}
