import java.util.ArrayList;
import java.util.List;
import java.util.NoSuchElementException;

/**
 * What Terms tell of all calls: refused ones change nothing, NONE is asked first, questions change nothing,
 * times to come end at 120 TURNS; and the 512 calls of an object.
 */
public final class EdgesOfTermsTest {
    interface Call {
        int ask(RoadsWithTides x);
    }

    private static final List<String> NAMES = new ArrayList<>();
    private static final List<Call> CALLS = new ArrayList<>();

    public static void main(String[] args) {
        refusedCallsChangeNothing();
        otherAnswersBelowZeroChangeNothing();
        thrownCallsChangeNothing();
        refusedTextsChangeNothingElse();
        questionsChangeNothing();
        questionsAreAnsweredAlike();
        noneAheadOfOthers();
        timesToComeEnd();
        theLastOfItsCalls();
        nowFarOn();
        twoObjectsAreTwo();
        Check.finish();
    }

    /**
     * NOW 15: CART 0 is at a, 1 on ROAD 0 and CUT until now, 2 WRECKED on ROAD 0, 3 at c; ROADS 0 and 2
     * are THERE; something can be undone, something is kept, two marks are made, THE TEXT has 8 signs.
     */
    private static RoadsWithTides rich() {
        RoadsWithTides x = Check.made("p10;p50;p20;rab9-10;rbc3-15;rac9-5;rab1-99", "12*20", "a0;b5*;b1;c3");
        x.pass(9);
        x.out(1, 0);
        x.out(2, 0);
        x.patience(5);
        x.pass(6);
        x.keep(0);
        x.mark(6, 20);
        x.mark(7, 99);
        x.sign('?' << 24);
        x.sign(0);
        x.table(0, 120);
        return x;
    }

    private static void add(String name, Call call) {
        NAMES.add(name);
        CALLS.add(call);
    }

    private static int told(boolean answer) {
        return answer ? 1 : -1;
    }

    private static String all(RoadsWithTides x) {
        return Check.seen(x) + java.util.Arrays.toString(Check.rowOf(x)) + tables(x);
    }

    /** What is not seen by counting: LEVEL, THE RULE by its TURNS, what is kept, marks; asked of a copy of the calls. */
    private static String tables(RoadsWithTides x) {
        int[] row = Check.rowOf(x);
        StringBuilder told = new StringBuilder();
        for (int n = 0; n < 13; n++) {
            told.append(x.level(n)).append(' ');
        }
        told.append(x.fits(20)).append(' ').append(x.fits(0));
        x.table(0, 120);
        Check.due("the ROW of table() is told again", java.util.Arrays.equals(row, Check.rowOf(x)), true);
        return told.toString();
    }

    private static void answered(int want) {
        for (int i = 0; i < CALLS.size(); i++) {
            RoadsWithTides x = rich();
            String before = all(x);
            int answer = CALLS.get(i).ask(x);
            if (want == -1) {
                Check.due(NAMES.get(i), answer, -1);
            } else {
                Check.due(NAMES.get(i) + " is below NONE", answer < -1, true);
            }
            Check.same("behind " + NAMES.get(i), all(x), before);
            Check.due("again(0) behind " + NAMES.get(i), x.again(0), true);
            Check.due("again(1) behind " + NAMES.get(i), x.again(1), false);
            Check.due("NOW", x.count(3), 15);
        }
        NAMES.clear();
        CALLS.clear();
    }

    private static void refusedCallsChangeNothing() {
        Check.sentence("Terms 2: refused calls answer NONE, or false, and change nothing");
        add("end(9)", x -> told(x.end(9)));
        add("end(-1)", x -> told(x.end(-1)));
        add("patience(0)", x -> x.patience(0));
        add("patience(21)", x -> x.patience(21));
        add("sheet(4, 1, 1, 1)", x -> x.sheet(4, 1, 1, 1));
        add("sheet(-1, 1, 1, 1)", x -> x.sheet(-1, 1, 1, 1));
        add("sheet(2, 13, 1, 1)", x -> x.sheet(2, 13, 1, 1));
        add("sheet(3, 13, 1, 1)", x -> x.sheet(3, 13, 1, 1));
        add("out(4, 0)", x -> x.out(4, 0));
        add("out(0, 4)", x -> x.out(0, 4));
        add("out(1, 4)", x -> x.out(1, 4));
        add("round(0)", x -> x.round(0));
        add("round(2), WRECKED", x -> x.round(2));
        add("round(4)", x -> x.round(4));
        add("chain(0, 2)", x -> x.chain(0, 2));
        add("chain(2, 1), WRECKED", x -> x.chain(2, 1));
        add("chain(4, 1)", x -> x.chain(4, 1));
        add("load(0, 10)", x -> x.load(0, 10));
        add("load(1, 1), on a ROAD", x -> x.load(1, 1));
        add("load(4, 1)", x -> x.load(4, 1));
        add("storm(4, 0, 1)", x -> x.storm(4, 0, 1));
        add("storm(1, 0, 0)", x -> x.storm(1, 0, 0));
        add("storm(1, 0, 3)", x -> x.storm(1, 0, 3));
        add("storm(0, 2, 2), under a CART", x -> x.storm(0, 2, 2));
        add("pass(100)", x -> x.pass(100));
        add("pass(-1)", x -> x.pass(-1));
        add("level(121)", x -> x.level(121));
        add("level(-1)", x -> x.level(-1));
        add("table(4, 5)", x -> x.table(4, 5));
        add("table(0, 0)", x -> x.table(0, 0));
        add("table(0, 121)", x -> x.table(0, 121));
        add("comes(4)", x -> x.comes(4));
        add("soonest(3, 0)", x -> x.soonest(3, 0));
        add("soonest(0, 3)", x -> x.soonest(0, 3));
        add("latest(0, 0, 5)", x -> x.latest(0, 0, 5));
        add("latest(0, 1, 121)", x -> x.latest(0, 1, 121));
        add("safe(0, 1, 21)", x -> x.safe(0, 1, 21));
        add("safe(3, 1, 2)", x -> x.safe(3, 1, 2));
        add("within(0, 121)", x -> x.within(0, 121));
        add("within(3, 1)", x -> x.within(3, 1));
        add("cutoff(3)", x -> x.cutoff(3));
        add("carrier(0, 8)", x -> x.carrier(0, 8));
        add("carrier(3, 1)", x -> x.carrier(3, 1));
        add("inns(121)", x -> x.inns(121));
        add("arrives(0)", x -> x.arrives(0));
        add("arrives(4)", x -> x.arrives(4));
        add("best(1, 0)", x -> x.best(1, 0));
        add("best(0, 4)", x -> x.best(0, 4));
        add("could(3, 1)", x -> x.could(3, 1));
        add("could(0, 121)", x -> x.could(0, 121));
        add("mark(1000, 0)", x -> x.mark(1000, 0));
        add("mark(0, 181)", x -> x.mark(0, 181));
        add("fits(21)", x -> x.fits(21));
        add("read(21, 0)", x -> x.read(21, 0));
        add("read(0, 1000)", x -> x.read(0, 1000));
        add("lookat(21)", x -> x.lookat(21));
        add("years(1, 0)", x -> x.years(1, 0));
        add("years(1, 41)", x -> x.years(1, 41));
        add("keep(2)", x -> told(x.keep(2)));
        add("again(1)", x -> told(x.again(1)));
        add("again(2)", x -> told(x.again(2)));
        add("count(13)", x -> x.count(13));
        answered(-1);
        RoadsWithTides full = rich();
        for (int i = 0; i < 18; i++) {
            full.sign(0);
        }
        String before = all(full);
        Check.due("sign() beyond 80", full.sign('x' << 24), -1);
        Check.same("behind sign() beyond 80", all(full), before);
        for (int i = 0; i < 8; i++) {
            full.mark(0, 0);
        }
        before = all(full);
        Check.due("an eleventh mark", full.mark(0, 1), -1);
        Check.same("behind an eleventh mark", all(full), before);
        RoadsWithTides none = Check.made("p1;p2;rab1-1", "12*20", "");
        none.table(0, 120);
        before = all(none);
        Check.due("undo() of none", none.undo(), -1);
        Check.same("behind undo() of none", all(none), before);
    }

    private static void otherAnswersBelowZeroChangeNothing() {
        Check.sentence("Terms 2: other answers below 0 change nothing (where nothing is told)");
        add("out(1, 0), on a ROAD", x -> x.out(1, 0));
        add("out(0, 1), ends elsewhere", x -> x.out(0, 1));
        add("out(0, 3), not THERE", x -> x.out(0, 3));
        add("storm(0, 0, 2), under a CART", x -> x.storm(0, 0, 2));
        add("sheet(2, -1, 1, 1)", x -> x.sheet(2, -1, 1, 1));
        add("comes(3)", x -> x.comes(3));
        add("latest(0, 1, 0)", x -> x.latest(0, 1, 0));
        add("safe(0, 1, 20)", x -> x.safe(0, 1, 20));
        add("best(0, 3)", x -> x.best(0, 3));
        add("best(0, 1)", x -> x.best(0, 1));
        add("lookat(20)", x -> x.lookat(20));
        answered(-2);
    }

    private static void thrownCallsChangeNothing() {
        Check.sentence("8 to 10, 46: NoSuchElementException: nothing is changed");
        add("place(3, 0)", x -> thrown(() -> x.place(3, 0)));
        add("place(0, 4)", x -> thrown(() -> x.place(0, 4)));
        add("road(4, 0)", x -> thrown(() -> x.road(4, 0)));
        add("road(0, 8)", x -> thrown(() -> x.road(0, 8)));
        add("cart(4, 0)", x -> thrown(() -> x.cart(4, 0)));
        add("cart(0, 8)", x -> thrown(() -> x.cart(0, 8)));
        add("row(4)", x -> thrown(() -> x.row(4)));
        add("row(-1)", x -> thrown(() -> x.row(-1)));
        answered(-1);
    }

    private static int thrown(Check.Asking asking) {
        try {
            return asking.ask();
        } catch (NoSuchElementException e) {
            return -1;
        }
    }

    private static void refusedTextsChangeNothingElse() {
        Check.sentence("Terms 2: .. but THE TEXT, which a call that reads it empties");
        for (int call = 0; call < 5; call++) {
            RoadsWithTides x = rich();
            x.end(0);
            String before = all(x);
            x.sign('?' << 24);
            int answer = call == 0 ? x.flats() : call == 1 ? x.tide() : call == 2 ? x.carts() : call == 3 ? x.rule() : x.day();
            Check.due("call " + call, answer, -1);
            Check.same("behind call " + call, all(x), before);
            Check.due("again(0) behind call " + call, x.again(0), true);
        }
    }

    private static void addQuestions() {
        add("level(5)", x -> x.level(5));
        add("table(0, 50)", x -> x.table(0, 50));
        add("comes(1)", x -> x.comes(1));
        add("ebb()", x -> x.ebb());
        add("slack()", x -> x.slack());
        add("period()", x -> x.period());
        add("soonest(0, 2)", x -> x.soonest(0, 2));
        add("latest(0, 2, 100)", x -> x.latest(0, 2, 100));
        add("safe(2, 0, 1)", x -> x.safe(2, 0, 1));
        add("within(0, 120)", x -> x.within(0, 120));
        add("cutoff(0)", x -> x.cutoff(0));
        add("carrier(0, 4)", x -> x.carrier(0, 4));
        add("inns(60)", x -> x.inns(60));
        add("arrives(1)", x -> x.arrives(1));
        add("arrives(2)", x -> x.arrives(2));
        add("best(0, 0)", x -> x.best(0, 0));
        add("could(2, 120)", x -> x.could(2, 120));
        add("fits(20)", x -> x.fits(20));
        add("read(20, 5)", x -> x.read(20, 5));
        add("lookat(20)", x -> x.lookat(20));
        add("years(7, 40)", x -> x.years(7, 40));
        for (int what = 0; what <= 12; what++) {
            int one = what;
            add("count(" + what + ")", x -> x.count(one));
        }
        for (int what = 0; what <= 7; what++) {
            int one = what;
            add("place(2, " + what + ")", x -> x.place(2, what(one, 3)));
            add("road(0, " + what + ")", x -> x.road(0, one));
            add("cart(1, " + what + ")", x -> x.cart(1, one));
        }
    }

    private static int what(int what, int most) {
        return what > most ? most : what;
    }

    private static void questionsChangeNothing() {
        Check.sentence("Terms 2: questions change nothing");
        addQuestions();
        for (int i = 0; i < CALLS.size(); i++) {
            RoadsWithTides x = rich();
            String before = Check.seen(x);
            CALLS.get(i).ask(x);
            Check.same("behind " + NAMES.get(i), Check.seen(x), before);
            x.table(0, 120);
            RoadsWithTides y = rich();
            Check.same("behind " + NAMES.get(i) + ": tables", tables(x), tables(y));
            Check.due("undo() behind " + NAMES.get(i), x.undo(), 3);
            Check.due("NOW", x.count(3), 9);
            Check.due("again(0) behind " + NAMES.get(i), x.again(0), true);
            Check.due("NOW", x.count(3), 15);
        }
    }

    private static void questionsAreAnsweredAlike() {
        Check.sentence("Terms 2: questions change nothing: asked behind any other they are answered alike");
        int[] alone = new int[CALLS.size()];
        for (int i = 0; i < alone.length; i++) {
            RoadsWithTides x = rich();
            alone[i] = CALLS.get(i).ask(x);
        }
        for (int i = 0; i < alone.length; i++) {
            RoadsWithTides x = rich();
            for (int k = 0; k < alone.length; k++) {
                if (NAMES.get(k).equals("count(11)")) {
                    continue;
                }
                CALLS.get(i).ask(x);
                Check.due(NAMES.get(k) + " behind " + NAMES.get(i), CALLS.get(k).ask(x), alone[k]);
            }
        }
        NAMES.clear();
        CALLS.clear();
    }

    private static void noneAheadOfOthers() {
        Check.sentence("Terms 2: NONE is asked ahead of other answers below 0 (what a TEXT tells wrongly aside)");
        RoadsWithTides x = rich();
        Check.due("out: no such ROAD, and on a ROAD", x.out(1, 9), -1);
        Check.due("storm: like ones, and under a CART", x.storm(0, 1, 1), -1);
        Check.due("sheet: n above 12, and missing", x.sheet(3, 13, 1, 1), -1);
        Check.due("sheet: another kind, and n below 0", x.sheet(4, -1, 1, 1), -1);
        Check.due("comes: no such ROAD", x.comes(4), -1);
        Check.due("soonest: none such, not in 120", x.soonest(1, 3), -1);
        Check.due("latest: like ones, there is none", x.latest(1, 1, 0), -1);
        Check.due("safe: another m, not in 120", x.safe(0, 1, 21), -1);
        Check.due("carrier: bits of none such, not in 120", x.carrier(0, 15), -1);
        Check.due("arrives: none such", x.arrives(4), -1);
        Check.due("best: at no PLACE, ends elsewhere", x.best(1, 1), -1);
        Check.due("lookat: another e, no such ROUNDS", x.lookat(21), -1);
        Check.due("years: another n, no PLACES", new RoadsWithTides().years(1, 41), -1);
        Check.due("a TEXT that is wrong at 1", Check.flats(x, "px"), -2);
        Check.due("a TEXT that is wrong at 0", Check.flats(x, "x"), -1);
    }

    private static void timesToComeEnd() {
        Check.sentence("Terms 2: what is asked of times to come looks on for 120 TURNS at most (from NOW)");
        // the ROAD is THERE at 231 alone (and at 77)
        for (int now = 110; now <= 113; now++) {
            RoadsWithTides x = Check.made("p0;p0;rab1-20", "22*10+14*10", "a0");
            x.pass(99);
            x.pass(now - 99);
            int in = 231 - now;
            Check.due("comes in " + in, x.comes(0), in <= 120 ? in : -2);
            Check.due("ebb in " + in, x.ebb() == 20, in <= 120);
            Check.due("level in " + Math.min(120, in), x.level(Math.min(120, in)) == 20, in <= 120);
            Check.due("table to 120, in " + in, x.table(0, 120), in <= 119 ? 1 : 0);
            Check.due("soonest, out in " + in, x.soonest(0, 1), in <= 119 ? in + 1 : -2);
            Check.due("safe, out in " + in, x.safe(0, 1, 0), in <= 119 ? in + 1 : -2);
            Check.due("latest, out in " + in, x.latest(0, 1, 120), in <= 119 ? in : -2);
            Check.due("within, out in " + in, x.within(0, 120), in <= 119 ? 3 : 1);
            Check.due("cutoff, out in " + in, x.cutoff(0), in <= 119 ? 0 : 2);
            Check.due("carrier, out in " + in, x.carrier(0, 2), -2);
            Check.due("inns, out in " + in, x.inns(120), in <= 119 ? 1 : 2);
            Check.due("could, out in " + in, x.could(1, 120), in <= 119 ? 1 : 0);
        }
    }

    private static void theLastOfItsCalls() {
        Check.sentence("An object is used for at most 512 calls");
        RoadsWithTides x = new RoadsWithTides();
        x.sign('p' << 24 | '1' << 16 | ';' << 8 | 'p');
        x.sign('1' << 24 | ';' << 16 | 'r' << 8 | 'a');
        x.sign('b' << 24 | '3' << 16 | '-' << 8 | '9');
        Check.due("flats", x.flats(), 3);
        x.sign('a' << 24 | '1' << 16);
        x.end(2);
        Check.due("carts", x.carts(), 1);
        for (int call = 8; call <= 507; call += 2) {
            Check.due("call " + call, x.pass(1), 0);
            Check.due("call " + (call + 1), x.table(0, 12), 7);
        }
        Check.due("call 508: NOW", x.count(3), 250);
        Check.due("call 509", x.keep(1), true);
        Check.due("call 510", x.pass(9), 0);
        Check.due("call 511", x.again(1), true);
        Check.due("call 512: NOW", x.count(3), 250);
    }

    private static void nowFarOn() {
        Check.sentence("Terms 1: NOW, counted on (500 times 99)");
        RoadsWithTides x = Check.made("p0;p0;rab1-20", "60*60/59+59*59/1+58*58", "a0");
        for (int i = 0; i < 495; i++) {
            x.pass(99);
        }
        int now = 495 * 99;
        Check.due("NOW", x.count(3), now);
        int want = 0;
        int[][] rounds = {{60, 60, 59}, {59, 59, 1}, {58, 58, 0}};
        for (int[] one : rounds) {
            int rest = (now + one[2]) % one[0];
            want += one[1] * 2 * Math.min(rest, one[0] - rest) / one[0];
        }
        Check.due("LEVEL", x.level(0), want);
        Check.due("what can be undone", x.count(10), 12);
    }

    private static void twoObjectsAreTwo() {
        Check.sentence("1: a new object: nothing of another one");
        RoadsWithTides x = rich();
        RoadsWithTides y = new RoadsWithTides();
        String before = all(x);
        Check.due("PLACES", y.count(0), 0);
        Check.due("ROW", y.count(11), 0);
        Check.due("undo", y.undo(), -1);
        Check.due("again", y.again(0), false);
        Check.flats(y, "p1;p2;rab1-1");
        Check.carts(y, "a9");
        Check.rule(y, "20");
        Check.tide(y, "9*9");
        y.pass(5);
        y.keep(1);
        y.patience(1);
        y.mark(0, 0);
        y.sheet(2, 1, 50, 0);
        y.years(1, 40);
        Check.same("the other one", all(x), before);
    }
}
