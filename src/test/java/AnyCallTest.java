import java.util.NoSuchElementException;
import java.util.Random;

/** Any calls in any state: nothing is thrown but what the document names, and questions change nothing. */
public final class AnyCallTest {
    private static final int[] ODD = {-1, 0, 1, 2, 3, 5, 7, 8, 11, 12, 13, 20, 21, 60, 99, 100, 119, 120, 121, 999, 1000,
        Integer.MIN_VALUE, Integer.MAX_VALUE, -2};
    private static final String[] TEXTS = {"p10;p50;p20;rab2-10;rbc3-5;rac9-15", "p1;p2;p3;p4;p5;p6;p7;p8", "rab1-1;rba9-9",
        "a0;b5*", "a1", "c2*;b3", "12*20", "60*60/59+59*60+58*60", "2*1", "s+l*2", "-(u-s)/(h-10)", "t9;o00;t5;b0;c0;l03",
        "t99;t99;t99;t99;t99;t99;t99;t99;t99;t99", "o00;o11;o22;t2", "", "x", "p1;", "rah1-1;rgh2-5;rfc3-20"};

    public static void main(String[] args) {
        Random random = new Random(1);
        for (int run = 0; run < 400; run++) {
            RoadsWithTides x = new RoadsWithTides();
            for (int i = 0; i < 300; i++) {
                step(x, random);
            }
        }
        Check.finish();
    }

    private static int odd(Random random) {
        return random.nextInt(3) == 0 ? ODD[random.nextInt(ODD.length)] : random.nextInt(random.nextBoolean() ? 4 : 13);
    }

    private static void step(RoadsWithTides x, Random random) {
        int a = odd(random);
        int b = odd(random);
        int c = odd(random);
        int kind = random.nextInt(46);
        boolean question = kind >= 20 && kind <= 34 || kind == 37 || kind == 38 || kind == 39 || kind == 40;
        String before = question ? Check.seen(x) : "";
        try {
            call(x, kind, a, b, c, random);
        } catch (NoSuchElementException e) {
            Check.due("thrown by " + kind, kind == 6 || kind == 7 || kind == 8 || kind == 45, true);
        } catch (RuntimeException e) {
            Check.same("thrown by call " + kind + " with " + a + ", " + b + ", " + c, e.toString(), "nothing");
        }
        if (question) {
            Check.same("a question changes nothing: " + kind, Check.seen(x), before);
        }
    }

    private static void call(RoadsWithTides x, int kind, int a, int b, int c, Random random) {
        if (kind == 41 && random.nextInt(4) != 0 || kind < 6 && random.nextInt(3) != 0) {
            Check.tell(x, TEXTS[random.nextInt(TEXTS.length)]);
        }
        switch (kind) {
            case 0: x.sign(random.nextInt()); break;
            case 1: x.end(a); break;
            case 2: x.flats(); break;
            case 3: x.tide(); break;
            case 4: x.carts(); break;
            case 5: x.rule(); break;
            case 6: x.place(a, b); break;
            case 7: x.road(a, b); break;
            case 8: x.cart(a, b); break;
            case 9: x.patience(a); break;
            case 10: x.sheet(a, b, c, odd(random)); break;
            case 11: case 12: x.out(a, b); break;
            case 13: x.round(a); break;
            case 14: x.chain(a, b); break;
            case 15: x.load(a, b); break;
            case 16: x.storm(a, b, c); break;
            case 17: case 18: x.pass(a); break;
            case 19: x.undo(); break;
            case 20: x.level(a); break;
            case 21: x.table(a, b); break;
            case 22: x.comes(a); break;
            case 23: x.ebb(); break;
            case 24: x.slack(); break;
            case 25: x.period(); break;
            case 26: x.soonest(a, b); break;
            case 27: x.latest(a, b, c); break;
            case 28: x.safe(a, b, c); break;
            case 29: x.within(a, b); break;
            case 30: x.cutoff(a); break;
            case 31: x.carrier(a, random.nextBoolean() ? random.nextInt(256) : b); break;
            case 32: x.inns(a); break;
            case 33: x.arrives(a); break;
            case 34: x.best(a, b); break;
            case 35: x.mark(a, b); break;
            case 36: x.wash(); break;
            case 37: x.could(a, b); break;
            case 38: x.years(a, b); break;
            case 39: asked(x, a, b, random); break;
            case 40: x.count(a); break;
            case 41: x.day(); break;
            case 42: x.keep(a); break;
            case 43: x.again(a); break;
            case 44: x.out(a, b); break;
            default: x.row(a); break;
        }
    }

    /** Questions of marks are long: they are asked more seldom. */
    private static void asked(RoadsWithTides x, int a, int b, Random random) {
        if (random.nextInt(10) == 0) {
            x.fits(a);
            x.read(a, b);
            x.lookat(a);
        }
    }
}
