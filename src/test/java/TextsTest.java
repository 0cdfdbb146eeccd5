/** Promises 1 to 7, and the faults of 19: a new object, THE TEXT, and what is told by it. */
public final class TextsTest {
    public static void main(String[] args) {
        newObject();
        signs();
        flats();
        flatsTooLong();
        room();
        tide();
        carts();
        rule();
        day();
        emptied();
        Check.finish();
    }

    private static void newObject() {
        RoadsWithTides x = new RoadsWithTides();
        int[] want = {0, 0, 0, 0, 0, 0, 0, 6, 1, 0, 0, 0, 0};
        for (int what = 0; what < want.length; what++) {
            Check.due("new: count(" + what + ")", x.count(what), want[what]);
        }
        Check.due("new: count(-1)", x.count(-1), -1);
        Check.due("new: count(13)", x.count(13), -1);
        Check.noSuch("new: place(0, 0)", () -> x.place(0, 0));
        Check.noSuch("new: road(0, 0)", () -> x.road(0, 0));
        Check.noSuch("new: cart(0, 0)", () -> x.cart(0, 0));
        Check.noSuch("new: row(0)", () -> x.row(0));
        Check.due("new: level(6)", x.level(6), 20);
        Check.due("new: level(12)", x.level(12), 0);
        Check.due("two objects are two", new RoadsWithTides().count(11), 0);
    }

    private static void signs() {
        RoadsWithTides x = new RoadsWithTides();
        Check.due("sign", x.sign('p' << 24 | '1' << 16 | ';' << 8 | 'p'), 4);
        Check.due("sign", x.sign('9' << 24 | 0xffffff), 8);
        Check.due("end(9)", x.end(9), false);
        Check.due("end(-1)", x.end(-1), false);
        Check.due("count(12) behind refused end()", x.count(12), 8);
        Check.due("end(8)", x.end(8), true);
        Check.due("end(5)", x.end(5), true);
        Check.due("flats, highest byte first", x.flats(), 2);
        Check.due("place(1, 0)", x.place(1, 0), 9);
        for (int i = 1; i <= 20; i++) {
            Check.due("sign " + i, x.sign(i), 4 * i);
        }
        Check.due("sign 21", x.sign(0), -1);
        Check.due("count(12)", x.count(12), 80);
        x.end(77);
        Check.due("sign at 77", x.sign(0), -1);
        Check.due("count(12)", x.count(12), 77);
        x.end(76);
        Check.due("sign at 76", x.sign(0), 80);
        Check.due("end(80)", x.end(80), true);
        Check.due("end(0)", x.end(0), true);
        Check.due("count(12)", x.count(12), 0);
    }

    private static void fault(String text, int want) {
        RoadsWithTides x = Check.made("p1;p2;rab1-5", "12*20", "");
        x.keep(0);
        x.pass(1);
        String before = Check.seen(x);
        Check.due("flats " + text, Check.flats(x, text), want);
        Check.same("flats " + text, Check.seen(x), before);
        Check.due("again behind flats " + text, x.again(0), true);
    }

    private static void flats() {
        fault("", 0);
        fault(";", -1);
        fault("q1", -1);
        fault("P1", -1);
        fault("p", -2);
        fault("px", -2);
        fault("p;", -2);
        fault("prab1-5", -2);
        fault("p1prab1-5", -3);
        fault("p123", -4);
        fault("p1;", -4);
        fault("p1;;", -4);
        fault("p1,p1", -3);
        fault("r", -2);
        fault("rc", -2);
        fault("ra", -3);
        fault("raa", -3);
        fault("rac", -3);
        fault("rbb", -3);
        fault("rab", -4);
        fault("rab0-5", -4);
        fault("rabx", -4);
        fault("rab1", -5);
        fault("rab12-5", -5);
        fault("rab1-", -6);
        fault("rab1-x", -6);
        fault("rab1-555", -8);
        fault("rab1-5;", -8);
        fault("rab1-5;p5x", -10);
        fault("p3;rad1-1", -6);
        RoadsWithTides x = new RoadsWithTides();
        Check.due("flats", Check.flats(x, "p0;p99;rba9-99"), 3);
        Check.due("more flats", Check.flats(x, "p07;rca1-00"), 2);
        Check.due("places", x.count(0), 3);
        Check.due("roads", x.count(1), 2);
        Check.due("place(0, 0)", x.place(0, 0), 0);
        Check.due("place(1, 0)", x.place(1, 0), 99);
        Check.due("place(2, 0)", x.place(2, 0), 7);
        Check.due("road(0, 0)", x.road(0, 0), 1);
        Check.due("road(0, 1)", x.road(0, 1), 0);
        Check.due("road(0, 2)", x.road(0, 2), 9);
        Check.due("road(0, 3)", x.road(0, 3), 99);
        Check.due("road(1, 0)", x.road(1, 0), 2);
        Check.due("road(1, 3)", x.road(1, 3), 0);
    }

    private static void flatsTooLong() {
        String roads = "p1;p2;rab1-5;rab1-5;rab1-5;rab1-5;rab1-5;rab1-5;rab1-5;rab1-5;rab1-5;rab1-50";
        Check.due("length", roads.length(), 76);
        Check.due("76 signs", Check.flats(new RoadsWithTides(), roads), 12);
        Check.due("77 signs", Check.flats(new RoadsWithTides(), roads + ";"), -77);
        Check.due("77 signs, any", Check.flats(new RoadsWithTides(), roads + "x"), -77);
        String early = roads.substring(0, 70) + "ab1-5;";
        Check.due("length", early.length(), 76);
        Check.due("76 signs, ends early", Check.flats(new RoadsWithTides(), early), -77);
        Check.due("80 signs, could go on", Check.flats(new RoadsWithTides(), early + "p1;p"), -77);
        Check.due("80 signs, a fault ahead", Check.flats(new RoadsWithTides(), "x" + early + "p1;"), -1);
        Check.due("80 signs, a fault at 75", Check.flats(new RoadsWithTides(), early.substring(0, 75) + "xp1;p"), -76);
    }

    private static void room() {
        RoadsWithTides x = new RoadsWithTides();
        Check.due("eight places", Check.flats(x, "p1;p2;p3;p4;p5;p6;p7;p8"), 8);
        Check.due("a ninth", Check.flats(x, "p9"), -1);
        Check.due("a ninth behind a road", Check.flats(x, "rah1-1;p9"), -8);
        Check.due("roads", x.count(1), 0);
        Check.due("no letter behind h", Check.flats(x, "rai1-1"), -3);
        Check.due("six roads", Check.flats(x, "rah1-1;rah1-1;rah1-1;rah1-1;rah1-1;rah1-1"), 6);
        Check.due("seven more", Check.flats(x, "rah1-1;rah1-1;rah1-1;rah1-1;rah1-1;rah1-1;rah1-1"), -43);
        Check.due("six more", Check.flats(x, "rah1-1;rah1-1;rah1-1;rah1-1;rah1-1;rah1-1"), 6);
        Check.due("a thirteenth", Check.flats(x, "rah1-1"), -1);
        Check.due("its end comes first", Check.flats(new RoadsWithTides(), "p1;p1;p1;p1;p1;p1;p1;p1;"), -25);
    }

    private static void tide() {
        String[] wrong = {"", "x", "1*5", "0*5", "61*5", "99*5", "999*5", "100*5", "5", "5x", "5*", "5*x", "5*61",
            "5*600", "5*6/", "5*6/x", "5*6/60", "5*6/599", "5*6+", "5*6+1*1", "5*6/5/5", "5*6;", "1", "1x", "+", "*",
            "5*6+5*6+5*6+", "5*6+5*6+5*6+5*6", "5*6+5*6+5*6x", "5**6"};
        int[] due = {-1, -1, -1, -1, -2, -2, -2, -3, -2, -2, -3, -3, -4,
            -5, -5, -5, -6, -7, -5, -5, -6, -4, -1, -1, -1, -1,
            -12, -12, -12, -3};
        for (int i = 0; i < wrong.length; i++) {
            RoadsWithTides x = new RoadsWithTides();
            Check.due("tide " + wrong[i], Check.tide(x, wrong[i]), due[i]);
            Check.due("level(6) behind tide " + wrong[i], x.level(6), 20);
            Check.due("rounds behind tide " + wrong[i], x.count(8), 1);
            Check.due("text behind tide " + wrong[i], x.count(12), 0);
        }
        RoadsWithTides x = new RoadsWithTides();
        Check.due("tide", Check.tide(x, "02*00+60*60/59+7*1/0"), 3);
        Check.due("rounds", x.count(8), 3);
        Check.due("tide", Check.tide(x, "5*10/3"), 1);
        int[] levels = {8, 4, 0, 4, 8, 8};
        for (int t = 0; t < levels.length; t++) {
            Check.due("5*10/3 at " + t, x.level(t), levels[t]);
        }
        Check.tide(x, "60*60/59+60*60/59+60*60/59");
        Check.due("three high rounds", x.level(31), 180);
    }

    private static void carts() {
        String[] wrong = {"a", "a*", "c1", "A1", ";", "a1;", "a12", "a1**", "a1;c1", "a1*;", "a1;b1;a1;b1*;b1"};
        int[] due = {-2, -2, -1, -1, -1, -4, -3, -4, -4, -5, -14};
        for (int i = 0; i < wrong.length; i++) {
            RoadsWithTides x = Check.made("p1;p2", "12*20", "a7");
            x.keep(1);
            Check.due("carts " + wrong[i], Check.carts(x, wrong[i]), due[i]);
            Check.due("carts there are", x.count(2), 1);
            Check.due("LOAD of the first", x.cart(0, 4), 7);
            Check.due("kept yet", x.again(1), true);
        }
        RoadsWithTides x = Check.made("p1;p2", "12*20", "");
        Check.due("carts", Check.carts(x, "a0;b9*;a3*"), 3);
        Check.due("more carts", Check.carts(x, "b1;a2"), 2);
        Check.due("a sixth", Check.carts(x, "a1"), -1);
        int[][] want = {{0, 0, 0}, {1, 9, 1}, {0, 3, 1}, {1, 1, 0}, {0, 2, 0}};
        for (int c = 0; c < 5; c++) {
            Check.due("PLACE of cart " + c, x.cart(c, 0), want[c][0]);
            Check.due("LOAD of cart " + c, x.cart(c, 4), want[c][1]);
            Check.due("CHAINED of cart " + c, x.cart(c, 5), want[c][2]);
        }
        Check.due("a long wrong text", Check.carts(new RoadsWithTides(), "a1;a1;a1;a1;a1;a1;a1;a1;a1;a1;a1;a1;a1;a1;a1"), -1);
    }

    private static void rule() {
        String[] wrong = {"x", "+", "s+", "s s", "1234", "s<u<h", "(s<u)<h<1", "(s", "()", "s)", "((((1))))",
            "(((((1)))))", "s<", "*s", "s*/u", "-", "--", "s(", "(s<u<h)", "2s", "s2", "s~u", "~s", "(1)(1)", "1<(2>3=4)"};
        int[] due = {-1, -1, -3, -2, -4, -4, -8, -3, -2, -2, 0,
            -5, -3, -1, -3, -2, -3, -2, -5, -2, -2, -2, -1, -4, -7};
        for (int i = 0; i < wrong.length; i++) {
            RoadsWithTides x = Check.made("p1;p2;rab7-5", "12*20", "");
            Check.rule(x, "s+1");
            Check.due("rule " + wrong[i], Check.rule(x, wrong[i]), due[i]);
            Check.due("TURNS behind rule " + wrong[i], x.road(0, 6), due[i] == 0 ? 1 : 8);
        }
        String forty = "1+1+1+1+1+1+1+1+1+1+1+1+1+1+1+1+1+1+1+1";
        RoadsWithTides x = Check.made("p1;p2;rab7-5", "12*20", "");
        Check.due("39 signs", Check.rule(x, forty), 0);
        Check.due("40 signs", Check.rule(x, "-" + forty), 0);
        Check.due("40 signs, ends early", Check.rule(x, forty + "+"), -41);
        Check.due("41 signs", Check.rule(x, forty + "+1"), -41);
        Check.due("41 signs, a fault at 39", Check.rule(x, forty + ")1"), -40);
        Check.due("41 signs, any sign behind", Check.rule(x, "-" + forty + "x"), -41);
        Check.due("no rule", Check.rule(x, ""), 0);
        Check.due("TURNS without", x.road(0, 6), 7);
    }

    private static void day() {
        String[] wrong = {"x", "o", "ox", "o0", "o0x", "o0123", "t", "tx", "t123", "b", "b12", "c", "c1*", "l", "l0", "l012",
            "t1;", "t1;;", ";", "t1,t1", "t1;o0"};
        int[] due = {-1, -2, -2, -3, -3, -5, -2, -2, -4, -2, -3, -2, -3, -2, -3, -4,
            -4, -4, -1, -3, -6};
        for (int i = 0; i < wrong.length; i++) {
            RoadsWithTides x = Check.made("p1;p2;rab7-5", "12*20", "a0");
            x.pass(3);
            x.level(0);
            String before = Check.seen(x);
            Check.due("day " + wrong[i], Check.day(x, wrong[i]), due[i]);
            Check.same("behind day " + wrong[i], Check.seen(x), before);
            Check.row("behind day " + wrong[i], x, 1);
        }
        String sixty = "t1;t1;t1;t1;t1;t1;t1;t1;t1;t1;t1;t1;t1;t1;t1;t1;t1;t1;t1;t10";
        RoadsWithTides x = new RoadsWithTides();
        Check.due("60 signs", Check.day(x, sixty), 20);
        Check.due("NOW", x.count(3), 29);
        Check.due("61 signs", Check.day(x, sixty + ";"), -61);
        Check.due("60 signs, ends early", Check.day(x, sixty.substring(0, 57) + "t1;"), -61);
        Check.due("61 signs, a fault at 59", Check.day(x, sixty.substring(0, 59) + "xx"), -60);
        Check.due("NOW", x.count(3), 29);
    }

    /** A call that reads THE TEXT empties it, refused or not. */
    private static void emptied() {
        RoadsWithTides x = new RoadsWithTides();
        for (int i = 0; i < 5; i++) {
            Check.tell(x, "?????");
            int answer = i == 0 ? x.flats() : i == 1 ? x.tide() : i == 2 ? x.carts() : i == 3 ? x.rule() : x.day();
            Check.due("a fault", answer, -1);
            Check.due("signs left", x.count(12), 0);
        }
    }
}
