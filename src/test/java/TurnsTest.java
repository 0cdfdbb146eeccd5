import java.util.ArrayList;
import java.util.List;
import java.util.Random;

/** Promises 13 to 20: what carts do, storms, TURNS, days, and undoing them. */
public final class TurnsTest {
    private static final String FLATS = "p10;p50;p20;rab2-10;rbc3-5;rac9-15";

    public static void main(String[] args) {
        out();
        round();
        chainAndLoad();
        storm();
        pass();
        patienceAndChains();
        day();
        undo();
        undoTwelve();
        undoForgotten();
        undoAtRandom();
        Check.finish();
    }

    private static void out() {
        RoadsWithTides x = Check.made(FLATS, "12*20", "a0;b5*");
        Check.due("not THERE", x.out(0, 0), -4);
        Check.due("not THERE, ends elsewhere", x.out(0, 1), -3);
        Check.due("no such cart", x.out(2, 0), -1);
        Check.due("no such cart", x.out(-1, 0), -1);
        Check.due("no such road", x.out(0, 3), -1);
        Check.due("no such road", x.out(0, -1), -1);
        x.pass(3);
        Check.due("out", x.out(0, 0), 4);
        Check.due("on a road", x.out(0, 0), -2);
        Check.due("on a road, by one that ends elsewhere", x.out(0, 1), -2);
        Check.due("on a road, by one that is not THERE", x.out(0, 2), -2);
        Check.due("on a road, by none such", x.out(0, 3), -1);
        Check.due("to where", x.cart(0, 2), 1);
        Check.due("the other way", x.out(1, 0), 2);
        Check.due("to where", x.cart(1, 2), 0);
        Check.due("what can be undone", x.count(10), 3);
    }

    private static void round() {
        RoadsWithTides x = Check.made("p0;p60;rab5-0", "12*20", "a0;b0");
        Check.due("at a PLACE", x.round(0), -1);
        Check.due("no such", x.round(2), -1);
        Check.due("no such", x.round(-1), -1);
        Check.due("up", x.out(0, 0), 8);
        Check.due("down", x.out(1, 0), 5);
        Check.due("round at once: 5 less 8, 1 at least", x.round(0), 1);
        Check.due("to where", x.cart(0, 2), 0);
        Check.due("round at once: 8 less 5", x.round(1), 3);
        Check.due("round again: 5 less 3", x.round(1), 2);
        Check.due("to where", x.cart(1, 2), 0);
        x.pass(1);
        Check.due("back at its place", x.cart(0, 0), 0);
        Check.due("on yet", x.cart(1, 3), 1);
        RoadsWithTides y = Check.made("p0;p0;rab5-10", "12*20", "a0");
        y.patience(5);
        y.pass(9);
        y.out(0, 0);
        y.pass(3);
        Check.due("CUT", y.cart(0, 6), 2);
        Check.due("round when CUT", y.round(0), 1);
        Check.due("CUT stays", y.cart(0, 6), 2);
        y.pass(4);
        Check.due("WRECKED", y.cart(0, 7), 1);
        Check.due("a WRECKED one", y.round(0), -1);
    }

    private static void chainAndLoad() {
        RoadsWithTides x = Check.made(FLATS, "12*20", "a0;b5*");
        Check.due("chain", x.chain(0, 1), 0);
        Check.due("chain again", x.chain(0, 1), 1);
        Check.due("loose", x.chain(1, 0), 1);
        Check.due("chain, v 2", x.chain(0, 2), -1);
        Check.due("chain, v -1", x.chain(0, -1), -1);
        Check.due("chain, none such", x.chain(2, 1), -1);
        Check.due("chain, none such", x.chain(-1, 1), -1);
        Check.due("load", x.load(1, 9), 5);
        Check.due("load", x.load(1, 0), 9);
        Check.due("load 10", x.load(1, 10), -1);
        Check.due("load -1", x.load(1, -1), -1);
        Check.due("load, none such", x.load(2, 1), -1);
        Check.due("load, none such", x.load(-1, 1), -1);
        Check.due("what can be undone", x.count(10), 5);
        x.pass(9);
        x.out(0, 0);
        x.out(1, 0);
        Check.due("load on a road", x.load(1, 1), -1);
        Check.due("chain on a road", x.chain(1, 0), 0);
        x.patience(5);
        x.pass(7);
        Check.due("the chained one is not WRECKED", x.count(6), 2);
        Check.due("chain a WRECKED one", x.chain(1, 1), -1);
        Check.due("loose a WRECKED one", x.chain(1, 0), -1);
    }

    private static void storm() {
        RoadsWithTides x = Check.made(FLATS, "12*20", "a0");
        Check.due("storm", x.storm(1, 2, 0), 8 + 2);
        Check.due("storm", x.storm(1, 0, 1), 16);
        Check.due("the first", x.road(1, 0), 0);
        Check.due("the other", x.road(1, 1), 1);
        Check.due("the same again", x.storm(1, 0, 1), 1);
        Check.due("like ones", x.storm(1, 1, 1), -1);
        Check.due("no such place", x.storm(1, 3, 1), -1);
        Check.due("no such place", x.storm(1, 1, 3), -1);
        Check.due("no such place", x.storm(1, -1, 1), -1);
        Check.due("no such road", x.storm(3, 0, 1), -1);
        Check.due("no such road", x.storm(-1, 0, 1), -1);
        x.pass(3);
        x.out(0, 0);
        Check.due("a cart is on it", x.storm(0, 0, 2), -2);
        Check.due("a cart is on it, like ones", x.storm(0, 0, 0), -1);
        Check.due("another road", x.storm(2, 1, 0), 2);
        Check.due("what can be undone", x.count(10), 6);
    }

    private static void pass() {
        RoadsWithTides x = Check.made("p0;p0;rab1-5;rab9-10", "12*20", "a0;a0;b0*;a0");
        Check.due("pass(-1)", x.pass(-1), -1);
        Check.due("pass(100)", x.pass(100), -1);
        Check.due("pass(99)", x.pass(99), 0);
        Check.due("NOW", x.count(3), 99);
        x.undo();
        x.patience(5);
        x.pass(9);
        x.out(0, 0);
        x.out(1, 1);
        x.out(2, 1);
        Check.due("one came", x.pass(1), 1);
        Check.row("pass(1)", x, 1, 0, 0);
        Check.due("none came", x.pass(3), 0);
        Check.row("pass(3)", x, 0, 6, 0);
        Check.due("pass(0)", x.pass(0), 0);
        Check.row("pass(0)", x, 0, 6, 0);
        Check.due("pass(2)", x.pass(2), 0);
        Check.row("pass(2)", x, 0, 6, 2);
        Check.due("CUT of the chained one", x.cart(2, 6), 5);
        Check.due("pass(30)", x.pass(30), 1);
        Check.row("pass(30)", x, 4, 2, 0);
        Check.due("a WRECKED one stays", x.cart(1, 1), 1);
        Check.due("CUT of a WRECKED one", x.cart(1, 6), 5);
        Check.due("LEFT of a WRECKED one", x.cart(1, 3), 8);
        Check.due("where the chained one came", x.cart(2, 0), 0);
    }

    private static void patienceAndChains() {
        RoadsWithTides y = Check.made("p0;p0;rab9-10", "12*20", "a0");
        y.pass(9);
        y.out(0, 0);
        y.pass(2);
        Check.row("CUT for one TURN", y, 0, 1, 0);
        RoadsWithTides x = Check.made("p0;p0;rab9-10", "12*20", "a0*;a0");
        x.patience(1);
        x.pass(9);
        x.out(0, 0);
        x.out(1, 0);
        x.pass(1);
        Check.due("none WRECKED", x.count(6), 0);
        x.pass(1);
        Check.due("PATIENCE 1", x.count(6), 2);
        x.pass(2);
        x.chain(0, 0);
        Check.due("CUT", x.cart(0, 6), 3);
        x.patience(20);
        x.pass(1);
        Check.due("CUT and not yet WRECKED", x.count(6), 2);
        x.patience(3);
        x.pass(1);
        Check.due("CUT beyond PATIENCE", x.cart(0, 6), 5);
        Check.due("WRECKED", x.count(6), 3);
    }

    private static void day() {
        RoadsWithTides x = Check.made(FLATS, "12*20", "a0;b5*");
        Check.due("no acts", Check.day(x, ""), 0);
        Check.row("no acts", x, 0, 0);
        Check.due("what can be undone", x.count(10), 0);
        Check.due("a day", Check.day(x, "t3;o00;t4;c1;l01;o1" + "0;b1"), 7);
        Check.row("a day", x, 0, 1);
        Check.due("NOW", x.count(3), 7);
        Check.due("CHAINED", x.cart(1, 5), 0);
        Check.due("LOAD", x.cart(0, 4), 1);
        Check.due("turned round", x.cart(1, 2), 1);
        Check.due("as one", x.count(10), 1);
        Check.due("till one can't be", Check.day(x, "t1;l1" + "4;t9"), 1);
        Check.row("till one can't be", x, 1, 0);
        Check.due("NOW", x.count(3), 8);
        Check.due("the first can't be", Check.day(x, "o09;t9"), 0);
        Check.row("the first can't be", x, 1, 0);
        Check.due("what can be undone", x.count(10), 2);
        String[] acts = {"o90", "o0" + "12", "b0", "b9", "c9", "l91", "l11"};
        for (String act : acts) {
            Check.due(act, Check.day(x, act), 0);
            Check.row(act, x, 1, 0);
        }
        Check.due("chained twice", Check.day(x, "c0;c0;c0"), 3);
        Check.due("CHAINED", x.cart(0, 5), 1);
        Check.due("t0 is an act", Check.day(x, "t0"), 1);
        Check.due("it can be undone", x.count(10), 4);
        x.undo();
        x.undo();
        Check.due("CHAINED", x.cart(0, 5), 0);
        x.undo();
        Check.due("undone: NOW", x.count(3), 7);
        x.undo();
        Check.due("undone: NOW", x.count(3), 0);
        Check.due("undone: CHAINED", x.cart(1, 5), 1);
        Check.due("undone: LOAD", x.cart(0, 4), 0);
        Check.due("roads of two digits", Check.day(Check.made("p1;p1;rab1-0", "2*0", "a0"), "o0" + "00"), 1);
        Check.due("carts that came twice", Check.day(Check.made("p1;p1;rab1-0", "2*0", "a0"), "o00;t1;o00;t1"), 4);
        RoadsWithTides y = Check.made("p1;p1;rab1-0", "2*0", "a0");
        Check.day(y, "o00;t1;o00;t1;o01");
        Check.row("carts that came twice", y, 1, 2);
    }

    private static void undo() {
        RoadsWithTides x = Check.made(FLATS, "12*20", "a0;b5*");
        Check.due("none", x.undo(), -1);
        x.pass(0);
        Check.due("pass(0) is none", x.undo(), -1);
        x.pass(3);
        x.out(0, 2);
        x.round(0);
        x.chain(0, 5);
        x.load(0, -1);
        x.storm(0, 0, 0);
        x.pass(100);
        Check.due("refused ones are none", x.count(10), 1);
        x.out(0, 0);
        x.round(0);
        x.storm(1, 0, 1);
        x.load(1, 7);
        x.chain(1, 1);
        Check.due("what can be undone", x.count(10), 6);
        Check.due("undo chain", x.undo(), 5);
        Check.due("undo load", x.undo(), 4);
        Check.due("LOAD", x.cart(1, 4), 5);
        Check.due("undo storm", x.undo(), 3);
        Check.due("the first", x.road(1, 0), 1);
        Check.due("the other", x.road(1, 1), 2);
        Check.due("undo round", x.undo(), 2);
        Check.due("to where", x.cart(0, 2), 1);
        Check.due("LEFT", x.cart(0, 3), 4);
        Check.due("undo out", x.undo(), 1);
        Check.due("PLACE", x.cart(0, 0), 0);
        Check.due("undo pass", x.undo(), 0);
        Check.due("NOW", x.count(3), 0);
        Check.due("none", x.undo(), -1);
    }

    private static void undoTwelve() {
        RoadsWithTides x = Check.made(FLATS, "12*20", "a0");
        for (int i = 1; i <= 15; i++) {
            x.pass(1);
            Check.due("what can be undone", x.count(10), Math.min(i, 12));
            x.out(0, 9);
            x.load(0, 10);
        }
        for (int i = 11; i >= 0; i--) {
            Check.due("undo", x.undo(), i);
            Check.due("NOW", x.count(3), 3 + i);
        }
        Check.due("no more", x.undo(), -1);
        Check.due("NOW", x.count(3), 3);
    }

    private static void undoForgotten() {
        RoadsWithTides x = Check.made(FLATS, "12*20", "a0");
        x.keep(0);
        x.pass(1);
        Check.flats(x, "");
        Check.carts(x, "");
        Check.flats(x, "x");
        Check.carts(x, "x");
        Check.tide(x, "13*5");
        Check.rule(x, "s");
        x.patience(3);
        x.again(1);
        Check.due("not forgotten", x.count(10), 1);
        x.undo();
        Check.due("PATIENCE stays", x.count(7), 3);
        x.pass(1);
        Check.carts(x, "b1");
        Check.due("carts() forgets", x.undo(), -1);
        Check.due("NOW", x.count(3), 1);
        x.pass(1);
        Check.flats(x, "p1");
        Check.due("flats() forgets", x.undo(), -1);
        x.keep(0);
        x.pass(1);
        x.again(0);
        Check.due("again() forgets", x.undo(), -1);
    }

    private static void undoAtRandom() {
        Random random = new Random(20);
        for (int run = 0; run < 40; run++) {
            RoadsWithTides x = Check.made(FLATS, "12*20", "a0;b5*;c3");
            List<String> before = new ArrayList<>();
            for (int i = 0; i < 40; i++) {
                String seen = Check.stateOf(x);
                int cart = random.nextInt(3);
                int kind = random.nextInt(7);
                int answer = kind == 0 ? x.out(cart, random.nextInt(3))
                        : kind == 1 ? x.round(cart)
                        : kind == 2 ? x.chain(cart, random.nextInt(2))
                        : kind == 3 ? x.load(cart, random.nextInt(11))
                        : kind == 4 ? x.storm(random.nextInt(3), random.nextInt(3), random.nextInt(3))
                        : kind == 5 ? x.pass(1 + random.nextInt(6))
                        : Check.day(x, "o" + cart + random.nextInt(3) + ";t2;l03");
                if (kind == 6 ? answer > 0 : answer >= 0) {
                    before.add(seen);
                }
                if (before.size() > 12) {
                    before.remove(0);
                }
                if (random.nextInt(8) == 0 && !before.isEmpty()) {
                    x.undo();
                    Check.same("undone", Check.stateOf(x), before.remove(before.size() - 1));
                }
                Check.due("what can be undone", x.count(10), before.size());
            }
            while (!before.isEmpty()) {
                x.undo();
                Check.same("undone", Check.stateOf(x), before.remove(before.size() - 1));
            }
        }
    }
}
