/** The edges of promises 21 to 26 (LEVEL, tables, SLACK, period): for each sentence that names one, a method of its own. */
public final class EdgesOfTablesTest {
    /** 20 high at 77 and 231 alone, 0 at 0, 154 and 308 alone. */
    private static final String SELDOM = "22*10+14*10";

    public static void main(String[] args) {
        levelRefused();
        levelAtItsEnds();
        levelTheTurnBehind();
        levelFromNow();
        tableRefused();
        tableOfOne();
        tableOfAll();
        tableOfNone();
        tableOfTheFirstAndTheLast();
        tableMostOneBehindAnother();
        tableMostFirstSuch();
        tableEndsAtItsEnd();
        tableFromNow();
        comesNow();
        comesAtTheLast();
        comesInNone();
        comesHowLong();
        comesForEver();
        comesRefused();
        ebbTheFirst();
        ebbStill();
        ebbAtItsEnds();
        ebbFromNow();
        slackNone();
        slackAlways();
        slackAtItsEnds();
        slackRoadsThere();
        periodOfRounds();
        periodOfAHundredAndTwenty();
        periodBeyond();
        Check.finish();
    }

    private static RoadsWithTides made(String road, String tide, int now) {
        RoadsWithTides x = Check.made("p1;p2;rab1-" + road, tide, "");
        x.pass(Math.min(now, 99));
        x.pass(Math.max(0, Math.min(now - 99, 99)));
        x.pass(Math.max(0, now - 198));
        Check.due("NOW", x.count(3), now);
        return x;
    }

    private static void levelRefused() {
        Check.sentence("21: n TURNS (0 .. 120); NONE: another n");
        RoadsWithTides x = made("5", "12*20", 0);
        x.ebb();
        for (int n : new int[] {121, 122, -1, Integer.MIN_VALUE, Integer.MAX_VALUE}) {
            Check.due("level(" + n + ")", x.level(n), -1);
        }
        Check.row("the ROW stays", x, 6, 0, 0);
    }

    private static void levelAtItsEnds() {
        Check.sentence("21: LEVEL in n TURNS (0 .. 120)");
        RoadsWithTides x = made("5", "60*60", 0);
        Check.due("level(0)", x.level(0), 0);
        Check.row("level(0)", x, 1);
        Check.due("level(119)", x.level(119), 2);
        Check.row("level(119)", x, -1);
        Check.due("level(120)", x.level(120), 0);
        Check.row("level(120): the TURN behind is 121", x, 1);
    }

    private static void levelTheTurnBehind() {
        Check.sentence("21: the ROW: 1 if it is higher the TURN behind, -1 if lower, 0 if as high");
        RoadsWithTides x = made("5", "5*10", 0);
        int[] levels = {0, 4, 8, 8, 4, 0, 4};
        int[] rows = {1, 1, 0, -1, -1, 1, 1};
        for (int n = 0; n < levels.length; n++) {
            Check.due("level(" + n + ")", x.level(n), levels[n]);
            Check.row("level(" + n + ")", x, rows[n]);
        }
    }

    private static void levelFromNow() {
        Check.sentence("21: LEVEL in n TURNS (from NOW)");
        RoadsWithTides x = made("5", "12*20", 4);
        Check.due("level(0)", x.level(0), 13);
        Check.due("level(2)", x.level(2), 20);
        Check.due("level(8)", x.level(8), 0);
        Check.due("level(120)", x.level(120), 13);
    }

    private static void tableRefused() {
        Check.sentence("22: n 1 .. 120; NONE: others");
        RoadsWithTides x = made("5", "12*20", 0);
        x.ebb();
        for (int n : new int[] {0, 121, -1, Integer.MIN_VALUE, Integer.MAX_VALUE}) {
            Check.due("table(0, " + n + ")", x.table(0, n), -1);
        }
        for (int road : new int[] {1, 12, -1, Integer.MIN_VALUE, Integer.MAX_VALUE}) {
            Check.due("table(" + road + ", 5)", x.table(road, 5), -1);
        }
        Check.row("the ROW stays", x, 6, 0, 0);
    }

    private static void tableOfOne() {
        Check.sentence("22: of TURNS 0 .. n - 1: n 1");
        RoadsWithTides x = made("10", "12*20", 3);
        Check.due("THERE", x.table(0, 1), 1);
        Check.row("THERE", x, 0, 0, 1, 0);
        x.pass(7);
        Check.due("not THERE, as it was THERE the TURN ahead", x.table(0, 1), 0);
        Check.row("not THERE", x, -1, -1, 0, -1);
    }

    private static void tableOfAll() {
        Check.sentence("22: all of them");
        RoadsWithTides x = made("0", "12*20", 0);
        Check.due("120", x.table(0, 120), 120);
        Check.row("120", x, 0, 119, 120, 0);
        Check.due("119", x.table(0, 119), 119);
        Check.row("119", x, 0, 118, 119, 0);
    }

    private static void tableOfNone() {
        Check.sentence("22: the first, the last (NONE, NONE), the most .., from which on (NONE)");
        RoadsWithTides x = made("21", "12*20", 0);
        Check.due("none", x.table(0, 120), 0);
        Check.row("none", x, -1, -1, 0, -1);
        RoadsWithTides y = made("20", "12*20", 0);
        Check.due("of TURNS 0 .. 5", y.table(0, 6), 0);
        Check.row("of TURNS 0 .. 5", y, -1, -1, 0, -1);
        Check.due("of TURNS 0 .. 6", y.table(0, 7), 1);
        Check.row("of TURNS 0 .. 6", y, 6, 6, 1, 6);
    }

    private static void tableOfTheFirstAndTheLast() {
        Check.sentence("22: the first, the last");
        RoadsWithTides x = made("20", "12*20", 0);
        Check.due("6, 18, .., 114", x.table(0, 120), 10);
        Check.row("6, 18, .., 114", x, 6, 114, 1, 6);
        Check.due("without 114", x.table(0, 114), 9);
        Check.row("without 114", x, 6, 102, 1, 6);
        Check.due("with 114", x.table(0, 115), 10);
        Check.row("with 114", x, 6, 114, 1, 6);
    }

    private static void tableMostOneBehindAnother() {
        Check.sentence("22: the most of them one behind another");
        RoadsWithTides x = made("10", "12*20", 7);
        Check.due("7 .. 9, then 15 .. 21", x.table(0, 20), 10);
        Check.row("7 .. 9, then 15 .. 21", x, 0, 14, 7, 8);
        Check.due("7 .. 9, then 15, 16", x.table(0, 10), 5);
        Check.row("7 .. 9, then 15, 16", x, 0, 9, 3, 0);
    }

    private static void tableMostFirstSuch() {
        Check.sentence("22: from which on (the first such)");
        RoadsWithTides x = made("10", "12*20", 7);
        Check.due("7 .. 9, then 15 .. 17", x.table(0, 11), 6);
        Check.row("three and three", x, 0, 10, 3, 0);
        Check.due("7 .. 9, then 15 .. 18", x.table(0, 12), 7);
        Check.row("three and four", x, 0, 11, 4, 8);
    }

    private static void tableEndsAtItsEnd() {
        Check.sentence("22: of TURNS 0 .. n - 1 (those behind them are not told of)");
        RoadsWithTides x = made("10", "12*20", 0);
        Check.due("3 .. 9, cut at 4", x.table(0, 5), 2);
        Check.row("3 .. 9, cut at 4", x, 3, 4, 2, 3);
        Check.due("3 alone", x.table(0, 4), 1);
        Check.row("3 alone", x, 3, 3, 1, 3);
        Check.due("ahead of 3", x.table(0, 3), 0);
    }

    private static void tableFromNow() {
        Check.sentence("22: from now");
        RoadsWithTides x = made("10", "12*20", 9);
        Check.due("9, then 15 ..", x.table(0, 7), 2);
        Check.row("9, then 15 ..", x, 0, 6, 1, 0);
        RoadsWithTides y = made("20", SELDOM, 112);
        Check.due("231 is 119 from now", y.table(0, 120), 1);
        Check.row("231 is 119 from now", y, 119, 119, 1, 119);
        RoadsWithTides z = made("20", SELDOM, 111);
        Check.due("231 is 120 from now", z.table(0, 120), 0);
    }

    private static void comesNow() {
        Check.sentence("23: in how many TURNS a ROAD is THERE first (0: now)");
        RoadsWithTides x = made("10", "12*20", 9);
        Check.due("now", x.comes(0), 0);
        Check.row("now, and for one TURN", x, 1);
        x.pass(1);
        Check.due("it has just gone", x.comes(0), 5);
        Check.row("it has just gone", x, 7);
    }

    private static void comesAtTheLast() {
        Check.sentence("23: in how many TURNS (0 .. 120)");
        RoadsWithTides x = made("20", SELDOM, 111);
        Check.due("in 120", x.comes(0), 120);
        Check.row("in 120", x, 1);
        RoadsWithTides y = made("20", SELDOM, 112);
        Check.due("in 119", y.comes(0), 119);
        Check.row("in 119", y, 1);
    }

    private static void comesInNone() {
        Check.sentence("23: -2: in none of these");
        RoadsWithTides x = made("20", SELDOM, 110);
        Check.due("in 121", x.comes(0), -2);
        RoadsWithTides y = made("21", "12*20", 0);
        Check.due("never", y.comes(0), -2);
        RoadsWithTides z = made("20", "12*20", 0);
        Check.due("at its height", z.comes(0), 6);
    }

    private static void comesHowLong() {
        Check.sentence("23: for how many TURNS one behind the other it is THERE from then on");
        RoadsWithTides x = made("10", "12*20", 0);
        Check.due("at 3", x.comes(0), 3);
        Check.row("3 .. 9", x, 7);
        x.pass(5);
        Check.due("at 5", x.comes(0), 0);
        Check.row("5 .. 9", x, 5);
    }

    private static void comesForEver() {
        Check.sentence("23: (120 at most)");
        RoadsWithTides x = made("0", "12*20", 0);
        Check.due("always", x.comes(0), 0);
        Check.row("always", x, 120);
        RoadsWithTides y = made("1", "60*30", 0);
        Check.due("but at 0 and 60", y.comes(0), 1);
        Check.row("1 .. 59", y, 59);
        RoadsWithTides z = made("1", "60*60+59*59", 0);
        Check.due("but at 0 (the next such time is 3540)", z.comes(0), 1);
        Check.row("1 .. 120", z, 120);
    }

    private static void comesRefused() {
        Check.sentence("23: NONE: none such");
        RoadsWithTides x = made("21", "12*20", 0);
        x.ebb();
        for (int road : new int[] {1, 12, -1, Integer.MIN_VALUE, Integer.MAX_VALUE}) {
            Check.due("comes(" + road + ")", x.comes(road), -1);
        }
        Check.row("the ROW stays", x, 6, 0, 0);
    }

    private static void ebbTheFirst() {
        Check.sentence("24: when (the first), .. when (the first)");
        RoadsWithTides x = made("5", "5*10", 0);
        Check.due("8 at 2, 3, 7, ..", x.ebb(), 8);
        Check.row("0 at 0, 5, ..", x, 2, 0, 0);
        x.pass(1);
        Check.due("8 at 1, 2, 6, ..", x.ebb(), 8);
        Check.row("0 at 4, 9, ..", x, 1, 0, 4);
    }

    private static void ebbStill() {
        Check.sentence("24: the highest and the lowest are the same");
        RoadsWithTides x = made("5", "7*0", 50);
        Check.due("ebb", x.ebb(), 0);
        Check.row("ebb", x, 0, 0, 0);
    }

    private static void ebbAtItsEnds() {
        Check.sentence("24: the highest LEVEL in TURNS 0 .. 120");
        RoadsWithTides x = made("5", SELDOM, 111);
        Check.due("the highest in 120", x.ebb(), 20);
        Check.due("when", x.row(0), 120);
        RoadsWithTides y = made("5", SELDOM, 110);
        Check.due("the highest in 121 is not looked at", y.ebb() < 20, true);
        RoadsWithTides z = made("5", SELDOM, 34);
        Check.due("the highest in 43", z.ebb(), 20);
        Check.row("the lowest in 120", z, 43, 0, 120);
        RoadsWithTides w = made("5", SELDOM, 33);
        w.ebb();
        Check.due("the lowest in 121 is not looked at", w.row(1) > 0, true);
        RoadsWithTides v = made("5", SELDOM, 77);
        Check.due("the highest in 0", v.ebb(), 20);
        Check.row("the lowest in 77", v, 0, 0, 77);
    }

    private static void ebbFromNow() {
        Check.sentence("24: (from NOW)");
        RoadsWithTides x = made("5", "12*20", 7);
        Check.due("ebb", x.ebb(), 20);
        Check.row("ebb", x, 11, 0, 5);
    }

    private static void slackNone() {
        Check.sentence("25: the first (NONE), how many ROADS are THERE in that (0)");
        for (int now : new int[] {0, 5, 6, 7}) {
            RoadsWithTides x = made("0", "12*20", now);
            Check.due("none", x.slack(), 0);
            Check.row("none, though the ROAD is THERE", x, -1, 0);
        }
    }

    private static void slackAlways() {
        Check.sentence("25: TURNS 0 .. 119");
        RoadsWithTides x = made("0", "7*0", 0);
        Check.due("all of them", x.slack(), 120);
        Check.row("all of them", x, 0, 1);
    }

    private static void slackAtItsEnds() {
        Check.sentence("25: TURNS 0 .. 119 from now in which LEVEL is as high as in the one behind");
        // 59*59 is as high at 29 and 30, at 88 and 89, at 147 and 148
        RoadsWithTides x = made("58", "59*59", 27);
        Check.due("2, 61, and 120 that is too far", x.slack(), 2);
        Check.row("2, 61", x, 2, 1);
        x.pass(1);
        Check.due("1, 60, 119", x.slack(), 3);
        Check.row("1, 60, 119", x, 1, 1);
        x.pass(1);
        Check.due("0, 59, 118", x.slack(), 3);
        Check.row("0, 59, 118", x, 0, 1);
        x.pass(1);
        Check.due("58, 117", x.slack(), 2);
        Check.row("58, 117: as high as in the one ahead is none", x, 58, 1);
    }

    private static void slackRoadsThere() {
        Check.sentence("25: how many ROADS are THERE in that");
        RoadsWithTides x = Check.made("p1;p2;rab1-8;rab1-9;rab1-0;rab1-7;rab1-99", "5*10", "");
        Check.due("at 2, 7, ..: LEVEL 8", x.slack(), 24);
        Check.row("three of five", x, 2, 3);
        Check.due("no ROADS", new RoadsWithTides().slack(), 0);
        RoadsWithTides y = made("9", "5*10", 0);
        y.slack();
        Check.row("none", y, 2, 0);
    }

    private static void periodOfRounds() {
        Check.sentence("26: the least number of TURNS that each ROUND goes into, without a rest");
        String[] tides = {"2*1", "60*1", "6*1+4*1", "2*1+3*1+4*1", "5*0+7*0", "12*1+12*1/5", "60*1+2*1+3*1", "59*1"};
        int[] want = {2, 60, 12, 12, 35, 12, 60, 59};
        for (int i = 0; i < tides.length; i++) {
            Check.due("period of " + tides[i], made("5", tides[i], 3).period(), want[i]);
        }
    }

    private static void periodOfAHundredAndTwenty() {
        Check.sentence("26: (120 at most)");
        Check.due("120", made("5", "24*1+40*1", 0).period(), 120);
        Check.due("120", made("5", "8*1+3*1+5*1", 0).period(), 120);
        Check.due("119", made("5", "7*1+17*1", 0).period(), 119);
    }

    private static void periodBeyond() {
        Check.sentence("26: -2: it is more than 120");
        Check.due("3540", made("5", "2*1+60*1+59*1", 0).period(), -2);
        Check.due("126", made("5", "14*1+9*1", 0).period(), -2);
        Check.due("124", made("5", "4*1+31*1", 0).period(), -2);
        Check.due("240", made("5", "60*1+16*1", 0).period(), -2);
    }
}
