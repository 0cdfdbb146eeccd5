/** The edges of promises 27 to 33 (ways, the carrier, inns): for each sentence that names one, a method of its own. */
public final class EdgesOfWaysTest {
    private static final String EIGHT = "p0;p0;p0;p0;p0;p0;p0;p0";
    private static final int[] FAR_OUT = {-1, -2, Integer.MIN_VALUE, Integer.MAX_VALUE};

    public static void main(String[] args) {
        gonebyAllTheTurns();
        waitsAtPlaces();
        waysWithoutLoad();
        waysFromNow();
        waysBothWays();
        waysByAllRoads();
        soonestToTheSame();
        soonestAtTheLast();
        soonestNotInTime();
        soonestRefused();
        soonestNoPlaceTwice();
        soonestLeastRow();
        soonestLongestRow();
        latestAtItsEnds();
        latestNone();
        latestIsTheLatest();
        latestEitherWay();
        latestRefused();
        latestLikeOnes();
        safeByNone();
        safeByMore();
        safeEachRoad();
        safeToTheSame();
        safeAtTheLast();
        safeNotInTime();
        safeRefused();
        safeNoneFirst();
        withinNone();
        withinAtItsEnds();
        withinTheFirst();
        withinRefused();
        cutoffNone();
        cutoffAll();
        cutoffInTime();
        cutoffRefused();
        carrierToNone();
        carrierButIt();
        carrierAtTheLast();
        carrierNotInTime();
        carrierToSix();
        carrierMoreThanSix();
        carrierRefused();
        carrierNoneFirst();
        carrierLeastRow();
        innsOfNoPlaces();
        innsInNoTurns();
        innsInAll();
        innsLeastBits();
        innsOneWay();
        innsRefused();
        Check.finish();
    }

    /** a and b, and a ROAD of so many STEPS and such a HEIGHT between them. */
    private static RoadsWithTides two(String road, String tide) {
        return Check.made("p0;p0;rab" + road, tide, "");
    }

    /** Seven ROADS in a line, a to h, each of 1 TURN and always THERE. */
    private static RoadsWithTides line() {
        RoadsWithTides x = Check.made(EIGHT, "2*0", "");
        Check.flats(x, "rab1-0;rbc1-0;rcd1-0;rde1-0;ref1-0;rfg1-0;rgh1-0");
        return x;
    }

    private static void gonebyAllTheTurns() {
        Check.sentence("Terms 1: THERE at t, t + 1, .., t and TURNS less 1 (then one is there at t and TURNS)");
        // 12*20 is 10 or more at 3 .. 9: seven TURNS
        RoadsWithTides x = two("7-10", "12*20");
        Check.due("seven of seven", x.soonest(0, 1), 10);
        Check.row("seven of seven", x, 3, 0);
        RoadsWithTides y = two("8-10", "12*20");
        Check.due("eight of seven", y.soonest(0, 1), -2);
        RoadsWithTides z = two("1-20", "12*20");
        Check.due("one of one", z.soonest(0, 1), 7);
        Check.row("one of one", z, 6, 0);
        RoadsWithTides w = two("2-20", "12*20");
        Check.due("two of one", w.soonest(0, 1), -2);
        x.pass(4);
        Check.due("from 4 on there are but six: one waits for 15", x.soonest(0, 1), 18);
        Check.row("from 4 on", x, 11, 0);
    }

    private static void waitsAtPlaces() {
        Check.sentence("27: one may wait at PLACES as long as one likes");
        RoadsWithTides x = Check.made("p0;p0;p0;rab1-0;rbc1-58", "60*58/29", "");
        Check.due("now", x.soonest(0, 2), 2);
        x.pass(2);
        Check.due("one waits at b for 61", x.soonest(0, 2), 60);
        Check.row("one waits at b for 61", x, 0, 0, 59, 1);
        for (int now = 0; now < 61; now++) {
            RoadsWithTides y = two("1-58", "60*58/30");
            y.pass(now);
            int wait = now == 0 ? 0 : 60 - now;
            Check.due("one waits for 60 at " + now, y.soonest(0, 1), wait + 1);
            Check.row("one waits for 60 at " + now, y, wait, 0);
        }
    }

    private static void waysWithoutLoad() {
        Check.sentence("27: ways (without LOAD)");
        RoadsWithTides x = Check.made("p0;p0;p0;rab1-0;rbc1-0", "2*0", "a9;a9");
        Check.rule(x, "s+l");
        Check.due("soonest", x.soonest(0, 2), 2);
        Check.due("safe", x.safe(0, 2, 5), 2);
        Check.due("latest", x.latest(0, 2, 2), 0);
        Check.due("within", x.within(0, 1), 3);
        Check.due("carrier", x.carrier(0, 4), 4);
        Check.due("inns", x.inns(1), 1);
        Check.due("could", x.could(2, 2), 3);
        Check.rule(x, "l+20");
        Check.due("cutoff", x.cutoff(0), 0);
    }

    private static void waysFromNow() {
        Check.sentence("27: from NOW: in how many TURNS");
        RoadsWithTides x = two("2-20", "5*25");
        x.pass(1);
        Check.due("at 2 and 3", x.soonest(0, 1), 3);
        Check.row("at 2 and 3", x, 1, 0);
        Check.due("latest", x.latest(0, 1, 8), 6);
        Check.due("within", x.within(0, 3), 3);
        Check.due("carrier", x.carrier(0, 2), 8);
        Check.due("inns", x.inns(2), 2);
        Check.due("inns", x.inns(3), 1);
    }

    private static void waysBothWays() {
        Check.sentence("Terms 1: ROADS .. both ways (TURNS from the one, TURNS from the other)");
        RoadsWithTides x = Check.made("p0;p60;p0;p60;rab1-0;rcb1-0;rcd1-0", "2*0", "");
        Check.due("up 4, down 1, up 4", x.soonest(0, 3), 9);
        Check.row("up 4, down 1, up 4", x, 0, 0, 4, 1, 5, 2);
        Check.due("down 1, up 4, down 1", x.soonest(3, 0), 6);
        Check.row("down 1, up 4, down 1", x, 0, 2, 1, 1, 5, 0);
    }

    private static void waysByAllRoads() {
        Check.sentence("Terms 1: ways by ROADS (at most 12)");
        RoadsWithTides x = Check.made(EIGHT, "2*0", "a0");
        Check.flats(x, "rba9-9;rba9-9;rcb9-9;rcb9-9;rdc9-9;rab2-0;rbc2-0");
        Check.flats(x, "rcd2-0;rde2-0;ref2-0;rfg2-0;rgh2-0");
        Check.due("ROADS", x.count(1), 12);
        Check.due("soonest", x.soonest(0, 7), 14);
        Check.row("soonest", x, 0, 5, 2, 6, 4, 7, 6, 8, 8, 9, 10, 10, 12, 11);
        Check.due("safe", x.safe(7, 0, 20), 14);
        Check.row("safe", x, 0, 11, 2, 10, 4, 9, 6, 8, 8, 7, 10, 6, 12, 5);
        Check.due("latest", x.latest(0, 7, 120), 106);
        Check.due("within", x.within(0, 13), 127);
        Check.due("cutoff", x.cutoff(0), 0);
        Check.due("carrier", x.carrier(0, 192), 28);
        Check.row("carrier", x, 6, 7);
        Check.due("inns", x.inns(8), 1);
        Check.row("inns", x, 8);
        Check.due("could", x.could(7, 14), 1);
        Check.due("could", x.could(7, 13), 0);
        Check.due("best", x.best(0, 5), 0);
    }

    private static void soonestToTheSame() {
        Check.sentence("27: from another one (or the same)");
        RoadsWithTides x = two("1-99", "12*20");
        for (int p = 0; p < 2; p++) {
            x.ebb();
            Check.due("to the same", x.soonest(p, p), 0);
            Check.row("to the same", x);
        }
        Check.due("to the other", x.soonest(0, 1), -2);
    }

    private static void soonestAtTheLast() {
        Check.sentence("27: in 120 TURNS");
        RoadsWithTides x = line();
        Check.rule(x, "20");
        Check.due("six of 20", x.soonest(0, 6), 120);
        Check.row("six of 20", x, 0, 0, 20, 1, 40, 2, 60, 3, 80, 4, 100, 5);
        // THERE at 231 alone
        RoadsWithTides y = two("1-20", "22*10+14*10");
        y.pass(99);
        y.pass(13);
        Check.due("set out in 119", y.soonest(0, 1), 120);
        Check.row("set out in 119", y, 119, 0);
    }

    private static void soonestNotInTime() {
        Check.sentence("27: -2: not in 120");
        RoadsWithTides x = line();
        Check.rule(x, "20");
        Check.due("seven of 20", x.soonest(0, 7), -2);
        RoadsWithTides y = two("1-20", "22*10+14*10");
        y.pass(99);
        y.pass(12);
        Check.due("set out in 120", y.soonest(0, 1), -2);
        RoadsWithTides z = Check.made("p0;p0;p0;rab1-0", "2*0", "");
        Check.due("no ROAD goes there", z.soonest(0, 2), -2);
        Check.due("no ROAD goes from there", z.soonest(2, 0), -2);
    }

    private static void soonestRefused() {
        Check.sentence("27: NONE: others");
        RoadsWithTides x = two("1-0", "2*0");
        x.ebb();
        Check.due("soonest(2, 0)", x.soonest(2, 0), -1);
        Check.due("soonest(0, 2)", x.soonest(0, 2), -1);
        Check.due("soonest(2, 2): none such, though the same", x.soonest(2, 2), -1);
        for (int p : FAR_OUT) {
            Check.due("soonest(" + p + ", 0)", x.soonest(p, 0), -1);
            Check.due("soonest(0, " + p + ")", x.soonest(0, p), -1);
            Check.due("soonest of two such", x.soonest(p, p), -1);
        }
        Check.row("the ROW stays", x, 0, 0, 0);
    }

    private static void soonestNoPlaceTwice() {
        Check.sentence("27: coming to no PLACE twice");
        RoadsWithTides x = Check.made("p0;p0;p0;rab1-0;rac1-9", "60*9/31", "");
        Check.due("one waits at a and not on the way to b and back", x.soonest(0, 2), 60);
        Check.row("one waits at a", x, 59, 1);
        RoadsWithTides y = Check.made("p0;p0;p0;p0;rab1-0;rac1-0;rbd1-9", "60*9/31", "");
        Check.due("nor from b to a", y.soonest(0, 3), 60);
        Check.row("nor from b to a", y, 0, 0, 59, 2);
        RoadsWithTides z = Check.made("p0;p0;p0;rab1-0;rac1-9;rbc1-9", "60*9/31", "");
        Check.due("nor to b, back and by the ROAD from a", z.soonest(0, 2), 60);
        Check.row("nor to b, back and by the ROAD from a", z, 0, 0, 59, 2);
    }

    private static void soonestLeastRow() {
        Check.sentence("27: of as soon ones the least row; Terms 2: rows are compared from the first on");
        RoadsWithTides x = Check.made("p0;p0;p0;rac2-0;rab1-0;rbc1-0;rac2-0", "2*0", "");
        Check.due("the least ROAD", x.soonest(0, 2), 2);
        Check.row("the least ROAD", x, 0, 0);
        RoadsWithTides y = Check.made("p0;p0;p0;rab1-0;rbc1-0;rac2-0", "2*0", "");
        Check.due("a longer row that is less", y.soonest(0, 2), 2);
        Check.row("a longer row that is less", y, 0, 0, 1, 1);
        // d opens at 5: one may set out at once by ROAD 2, or later by ROAD 0 or 1
        RoadsWithTides z = Check.made("p0;p0;p0;rab1-3;rab2-2;rab1-0;rbc1-5", "10*5", "");
        Check.due("the least TURN ahead of the least ROAD", z.soonest(0, 2), 6);
        Check.row("the least TURN ahead of the least ROAD", z, 0, 2, 5, 3);
        RoadsWithTides u = Check.made("p0;p0;p0;rab1-0;rab1-3;rbc1-5;rab1-5", "10*5", "");
        Check.due("the least TURN, though another ROAD comes behind it", u.soonest(0, 2), 6);
        Check.row("the least TURN, though another ROAD comes behind it", u, 0, 0, 5, 2);
        RoadsWithTides w = Check.made("p0;p0;p0;rbc1-0;rcb1-0;rba1-0;rab1-0", "2*0", "");
        Check.due("the least ROAD of each", w.soonest(0, 2), 2);
        Check.row("the least ROAD of each", w, 0, 2, 1, 0);
        // ROAD 0 is least, but by it one is there too late
        RoadsWithTides v = Check.made("p0;p0;p0;rab2-0;rab1-0;rbc1-0", "2*0", "");
        Check.due("the least of as soon ones alone", v.soonest(0, 2), 2);
        Check.row("the least of as soon ones alone", v, 0, 1, 1, 2);
    }

    private static void soonestLongestRow() {
        Check.sentence("27: the ROW: TURN, ROAD, TURN, ROAD, .. (of all PLACES)");
        RoadsWithTides x = line();
        Check.due("to the eighth", x.soonest(0, 7), 7);
        Check.row("to the eighth", x, 0, 0, 1, 1, 2, 2, 3, 3, 4, 4, 5, 5, 6, 6);
        Check.due("back", x.soonest(7, 0), 7);
        Check.row("back", x, 0, 6, 1, 5, 2, 4, 3, 3, 4, 2, 5, 1, 6, 0);
    }

    private static void latestAtItsEnds() {
        Check.sentence("28: the latest TURN (0 .. n from now), n TURNS (0 .. 120)");
        RoadsWithTides x = two("1-0", "2*0");
        Check.due("in 120", x.latest(0, 1, 120), 119);
        Check.due("in 1", x.latest(0, 1, 1), 0);
        Check.due("in 0", x.latest(0, 1, 0), -2);
        RoadsWithTides y = line();
        Check.rule(y, "20");
        Check.due("in 120, that are just enough", y.latest(0, 6, 120), 0);
        Check.due("in 119", y.latest(0, 6, 119), -2);
    }

    private static void latestNone() {
        Check.sentence("28: -2: there is none");
        RoadsWithTides x = two("2-10", "12*20");
        Check.due("in 4: THERE from 3 on", x.latest(0, 1, 4), -2);
        Check.due("in 5", x.latest(0, 1, 5), 3);
        Check.due("never THERE", two("2-21", "12*20").latest(0, 1, 120), -2);
        RoadsWithTides z = Check.made("p0;p0;p0;rab1-0", "2*0", "");
        Check.due("no ROAD goes there", z.latest(0, 2, 120), -2);
    }

    private static void latestIsTheLatest() {
        Check.sentence("28: the latest TURN in which one can be at a PLACE yet");
        RoadsWithTides x = two("2-10", "12*20");
        Check.due("in 10", x.latest(0, 1, 10), 8);
        Check.due("in 11", x.latest(0, 1, 11), 8);
        Check.due("in 16: 15 and 16 are too late", x.latest(0, 1, 16), 8);
        Check.due("in 17", x.latest(0, 1, 17), 15);
    }

    private static void latestEitherWay() {
        Check.sentence("28: in which one can be at a PLACE yet, so that one is at another one (up and down)");
        RoadsWithTides x = Check.made("p0;p99;p0;rab1-0;rbc1-0", "2*0", "");
        Check.due("up from a to b: 5", x.latest(0, 1, 50), 45);
        Check.due("down from b to a: 1", x.latest(1, 0, 50), 49);
        Check.due("from a to c: 5 and 1", x.latest(0, 2, 50), 44);
        Check.due("from c to a: 5 and 1", x.latest(2, 0, 50), 44);
    }

    private static void latestRefused() {
        Check.sentence("28: NONE: others");
        RoadsWithTides x = two("1-0", "2*0");
        for (int n : new int[] {121, -1, Integer.MIN_VALUE, Integer.MAX_VALUE}) {
            Check.due("latest(0, 1, " + n + ")", x.latest(0, 1, n), -1);
        }
        Check.due("latest(2, 0, 5)", x.latest(2, 0, 5), -1);
        Check.due("latest(0, 2, 5)", x.latest(0, 2, 5), -1);
        for (int p : FAR_OUT) {
            Check.due("latest(" + p + ", 0, 5)", x.latest(p, 0, 5), -1);
            Check.due("latest(0, " + p + ", 5)", x.latest(0, p, 5), -1);
        }
    }

    private static void latestLikeOnes() {
        Check.sentence("28: NONE: like ones");
        RoadsWithTides x = two("1-0", "2*0");
        Check.due("latest(0, 0, 5)", x.latest(0, 0, 5), -1);
        Check.due("latest(1, 1, 0)", x.latest(1, 1, 0), -1);
        Check.due("latest(1, 1, 120)", x.latest(1, 1, 120), -1);
    }

    private static void safeByNone() {
        Check.sentence("29: m TURNS (0 .. 20): 0 is as soonest()");
        RoadsWithTides x = two("7-10", "12*20");
        Check.due("by 0", x.safe(0, 1, 0), 10);
        Check.row("by 0", x, 3, 0);
    }

    private static void safeByMore() {
        Check.sentence("29: each ROAD that is gone by is THERE for m TURNS more behind the last");
        RoadsWithTides x = two("4-10", "12*20");
        Check.due("by 3: 3 .. 6 and 7 .. 9", x.safe(0, 1, 3), 7);
        Check.row("by 3", x, 3, 0);
        Check.due("by 4", x.safe(0, 1, 4), -2);
        x.pass(4);
        Check.due("by 2: 4 .. 7 and 8, 9", x.safe(0, 1, 2), 4);
        Check.due("by 3 one waits for 15", x.safe(0, 1, 3), 15);
        Check.row("by 3 one waits for 15", x, 11, 0);
        // 60*60 is 18 or more at 9 .. 51: 43 TURNS
        RoadsWithTides y = two("9-18", "60*60");
        Check.due("by 20", y.safe(0, 1, 20), 18);
        y.pass(23);
        Check.due("by 20 from 23 on: 23 .. 31 and 32 .. 51", y.safe(0, 1, 20), 9);
        y.pass(1);
        Check.due("by 20 from 24 on one waits for 69", y.safe(0, 1, 20), 54);
        Check.due("by 19 from 24 on", y.safe(0, 1, 19), 9);
    }

    private static void safeEachRoad() {
        Check.sentence("29: each ROAD; the ROW likewise (of ways that are safe so)");
        RoadsWithTides x = Check.made("p0;p0;p0;rab1-10;rbc1-10;rac7-0;rac3-10", "12*20", "");
        x.pass(3);
        Check.due("by 0", x.safe(0, 2, 0), 2);
        Check.row("by 0", x, 0, 0, 1, 1);
        Check.due("by 5: 4 and 5 .. 9", x.safe(0, 2, 5), 2);
        Check.due("by 6: the second ROAD is not safe so", x.safe(0, 2, 6), 7);
        Check.row("by 6", x, 0, 2);
        Check.due("soonest is as it was", x.soonest(0, 2), 2);
    }

    private static void safeToTheSame() {
        Check.sentence("29: as soonest(): to the same");
        RoadsWithTides x = two("1-99", "12*20");
        x.ebb();
        Check.due("to the same", x.safe(1, 1, 20), 0);
        Check.row("to the same", x);
    }

    private static void safeAtTheLast() {
        Check.sentence("29: in 120 TURNS");
        RoadsWithTides x = line();
        Check.rule(x, "20");
        Check.due("six of 20", x.safe(0, 6, 20), 120);
        Check.row("six of 20", x, 0, 0, 20, 1, 40, 2, 60, 3, 80, 4, 100, 5);
    }

    private static void safeNotInTime() {
        Check.sentence("29: -2 likewise: not in 120");
        RoadsWithTides x = line();
        Check.rule(x, "20");
        x.ebb();
        Check.due("seven of 20", x.safe(0, 7, 20), -2);
        Check.due("none is safe so", two("7-10", "12*20").safe(0, 1, 1), -2);
    }

    private static void safeRefused() {
        Check.sentence("29: NONE likewise; m TURNS (0 .. 20)");
        RoadsWithTides x = two("1-0", "2*0");
        x.ebb();
        for (int m : new int[] {21, 22, -1, Integer.MIN_VALUE, Integer.MAX_VALUE}) {
            Check.due("safe(0, 1, " + m + ")", x.safe(0, 1, m), -1);
            Check.due("safe(0, 0, " + m + ")", x.safe(0, 0, m), -1);
        }
        Check.due("safe(2, 0, 5)", x.safe(2, 0, 5), -1);
        Check.due("safe(0, 2, 5)", x.safe(0, 2, 5), -1);
        for (int p : FAR_OUT) {
            Check.due("safe(" + p + ", 0, 5)", x.safe(p, 0, 5), -1);
            Check.due("safe(0, " + p + ", 5)", x.safe(0, p, 5), -1);
        }
        Check.row("the ROW stays", x, 0, 0, 0);
    }

    private static void safeNoneFirst() {
        Check.sentence("Terms 2: NONE is asked ahead of other answers below 0: safe()");
        RoadsWithTides x = two("1-99", "12*20");
        Check.due("not in 120, and another m", x.safe(0, 1, 21), -1);
        Check.due("not in 120, and another m", x.safe(0, 1, -1), -1);
        Check.due("not in 120", x.safe(0, 1, 20), -2);
    }

    private static void withinNone() {
        Check.sentence("30: PLACES (bits) that can be reached (it too): it alone");
        RoadsWithTides x = line();
        for (int p = 0; p < 8; p++) {
            Check.due("in 0", x.within(p, 0), 1 << p);
            Check.row("in 0", x, 1, p, 0);
        }
    }

    private static void withinAtItsEnds() {
        Check.sentence("30: in n TURNS (0 .. 120)");
        RoadsWithTides x = line();
        Check.due("in 3", x.within(0, 3), 15);
        Check.row("in 3", x, 4, 3, 3);
        Check.due("in 120", x.within(0, 120), 255);
        Check.row("in 120", x, 8, 7, 7);
        Check.rule(x, "20");
        Check.due("in 120, by 20", x.within(0, 120), 127);
        Check.row("in 120, by 20", x, 7, 6, 120);
        Check.due("in 119, by 20", x.within(0, 119), 63);
        Check.row("in 119, by 20", x, 6, 5, 100);
        Check.due("in 100, by 20", x.within(0, 100), 63);
    }

    private static void withinTheFirst() {
        Check.sentence("30: the one that takes the longest of them (the first), how long");
        RoadsWithTides x = line();
        Check.due("both ways", x.within(3, 3), 127);
        Check.row("0 and 6 are as long", x, 7, 0, 3);
        Check.due("both ways", x.within(3, 120), 255);
        Check.row("7 is longer", x, 8, 7, 4);
        RoadsWithTides y = Check.made("p0;p0;p0;p0;rdb2-0;rdc2-0;rda1-0", "2*0", "");
        Check.due("all", y.within(3, 9), 15);
        Check.row("1 and 2 are as long", y, 4, 1, 2);
    }

    private static void withinRefused() {
        Check.sentence("30: NONE: others");
        RoadsWithTides x = two("1-0", "2*0");
        x.ebb();
        for (int n : new int[] {121, -1, Integer.MIN_VALUE, Integer.MAX_VALUE}) {
            Check.due("within(0, " + n + ")", x.within(0, n), -1);
        }
        Check.due("within(2, 5)", x.within(2, 5), -1);
        for (int p : FAR_OUT) {
            Check.due("within(" + p + ", 5)", x.within(p, 5), -1);
        }
        Check.row("the ROW stays", x, 0, 0, 0);
    }

    private static void cutoffNone() {
        Check.sentence("31: PLACES that can't be reached: none");
        Check.due("of two", two("1-0", "2*0").cutoff(0), 0);
        Check.due("of one", Check.made("p0", "2*0", "").cutoff(0), 0);
        Check.due("of eight", line().cutoff(3), 0);
    }

    private static void cutoffAll() {
        Check.sentence("31: PLACES that can't be reached: all but it");
        RoadsWithTides x = Check.made(EIGHT, "2*0", "");
        Check.due("from a", x.cutoff(0), 254);
        Check.due("from h", x.cutoff(7), 127);
    }

    private static void cutoffInTime() {
        Check.sentence("31: in 120 TURNS");
        RoadsWithTides x = line();
        Check.rule(x, "20");
        Check.due("the eighth in 140", x.cutoff(0), 128);
        Check.due("the first and the eighth from b: in 120", x.cutoff(1), 0);
        RoadsWithTides y = two("1-20", "22*10+14*10");
        y.pass(99);
        y.pass(12);
        Check.due("set out in 120", y.cutoff(0), 2);
        y.pass(1);
        Check.due("set out in 119", y.cutoff(0), 0);
    }

    private static void cutoffRefused() {
        Check.sentence("31: NONE: none such");
        RoadsWithTides x = two("1-0", "2*0");
        Check.due("cutoff(2)", x.cutoff(2), -1);
        for (int p : FAR_OUT) {
            Check.due("cutoff(" + p + ")", x.cutoff(p), -1);
        }
    }

    private static void carrierToNone() {
        Check.sentence("32: to all PLACES told as bits: none");
        RoadsWithTides x = two("1-99", "12*20");
        x.ebb();
        Check.due("to none", x.carrier(1, 0), 0);
        Check.row("to none", x);
    }

    private static void carrierButIt() {
        Check.sentence("32: (but it)");
        RoadsWithTides x = two("1-99", "12*20");
        x.ebb();
        Check.due("to it alone", x.carrier(1, 2), 0);
        Check.row("to it alone", x);
        RoadsWithTides y = line();
        Check.due("to it and the next", y.carrier(2, 12), 2);
        Check.row("to it and the next", y, 3);
    }

    private static void carrierAtTheLast() {
        Check.sentence("32: and back: in 120");
        RoadsWithTides x = line();
        Check.rule(x, "20");
        Check.due("there and back", x.carrier(0, 8), 120);
        Check.row("there and back", x, 3);
        Check.due("to all on the way", x.carrier(0, 14), 120);
        Check.row("to all on the way", x, 1, 2, 3);
    }

    private static void carrierNotInTime() {
        Check.sentence("32: -2: not in 120");
        RoadsWithTides x = line();
        Check.rule(x, "20");
        Check.due("there, and not back", x.carrier(0, 16), -2);
        Check.due("not there", x.carrier(0, 128), -2);
        Check.due("one of two", x.carrier(0, 130), -2);
        RoadsWithTides y = Check.made("p0;p0;p0;rab1-0", "2*0", "");
        Check.due("no ROAD goes there", y.carrier(0, 6), -2);
        Check.due("but to the other", y.carrier(0, 2), 2);
    }

    private static void carrierToSix() {
        Check.sentence("32: 6 are told besides it");
        RoadsWithTides x = line();
        Check.due("six", x.carrier(0, 126), 12);
        Check.row("six", x, 1, 2, 3, 4, 5, 6);
        Check.due("six and it", x.carrier(0, 127), 12);
        Check.due("six and it", x.carrier(7, 254), 12);
        Check.row("six and it: they are met there or back", x, 1, 2, 3, 4, 5, 6);
    }

    private static void carrierMoreThanSix() {
        Check.sentence("32: -3: more than 6 are told besides it");
        RoadsWithTides x = line();
        for (int p = 0; p < 8; p++) {
            Check.due("seven and it", x.carrier(p, 255), -3);
            Check.due("seven without it", x.carrier(p, 255 - (1 << p)), -3);
        }
        Check.rule(x, "20");
        Check.due("seven, not in 120 either", x.carrier(0, 255), -3);
    }

    private static void carrierRefused() {
        Check.sentence("32: NONE: bits of none such, none such");
        RoadsWithTides x = two("1-0", "2*0");
        x.ebb();
        for (int those : new int[] {4, 5, 7, 8, 256, 1 << 30, -1, Integer.MIN_VALUE, Integer.MAX_VALUE}) {
            Check.due("carrier(0, " + those + ")", x.carrier(0, those), -1);
        }
        Check.due("carrier(2, 1)", x.carrier(2, 1), -1);
        Check.due("carrier(2, 0)", x.carrier(2, 0), -1);
        for (int p : FAR_OUT) {
            Check.due("carrier(" + p + ", 1)", x.carrier(p, 1), -1);
            Check.due("carrier(" + p + ", 0)", x.carrier(p, 0), -1);
        }
        Check.row("the ROW stays", x, 0, 0, 0);
        Check.due("bits of none such, of eight", line().carrier(0, 258), -1);
    }

    private static void carrierNoneFirst() {
        Check.sentence("Terms 2: NONE is asked ahead of other answers below 0: carrier()");
        RoadsWithTides x = line();
        Check.due("seven, and bits of none such", x.carrier(0, 511), -1);
        Check.due("seven, from none such", x.carrier(8, 255), -1);
        Check.due("all bits", x.carrier(0, -1), -1);
        RoadsWithTides y = two("1-99", "12*20");
        Check.due("not in 120, and bits of none such", y.carrier(0, 6), -1);
    }

    private static void carrierLeastRow() {
        Check.sentence("32: of as soon ones the least row");
        RoadsWithTides x = Check.made("p0;p0;p0;p0;rab1-0;rbc1-0;rcd1-0;rda1-0", "2*0", "");
        Check.due("round either way", x.carrier(0, 14), 4);
        Check.row("round either way", x, 1, 2, 3);
        Check.due("from b", x.carrier(1, 13), 4);
        Check.row("from b", x, 0, 3, 2);
        // the other way round is sooner
        RoadsWithTides y = Check.made("p0;p0;p0;rab1-3;rbc1-0;rca1-0", "10*5", "");
        Check.due("by c first: a to b is THERE from 3 on", y.carrier(0, 6), 4);
        Check.row("by c first", y, 1, 2);
    }

    private static void innsOfNoPlaces() {
        Check.sentence("33: the fewest PLACES with inns: no PLACES");
        RoadsWithTides x = new RoadsWithTides();
        x.ebb();
        Check.due("inns", x.inns(120), 0);
        Check.row("inns", x, 0);
    }

    private static void innsInNoTurns() {
        Check.sentence("33: in n TURNS (0 ..)");
        RoadsWithTides x = line();
        Check.due("in 0 each has its own", x.inns(0), 8);
        Check.row("in 0 each has its own", x, 255);
        RoadsWithTides y = Check.made("p0", "2*0", "");
        Check.due("of one PLACE", y.inns(0), 1);
        Check.row("of one PLACE", y, 1);
    }

    private static void innsInAll() {
        Check.sentence("33: in n TURNS (.. 120)");
        RoadsWithTides x = line();
        Check.due("in 120", x.inns(120), 1);
        Check.row("in 120", x, 1);
        Check.rule(x, "20");
        Check.due("in 120, by 20: not a, that is 140 from h", x.inns(120), 1);
        Check.row("in 120, by 20", x, 2);
        Check.due("in 119, by 20", x.inns(119), 1);
        Check.row("in 119, by 20: 100 from c to h", x, 4);
        RoadsWithTides y = Check.made(EIGHT, "2*0", "");
        Check.due("without ROADS", y.inns(120), 8);
        Check.row("without ROADS", y, 255);
    }

    private static void innsLeastBits() {
        Check.sentence("33: (bits: of as few the least)");
        RoadsWithTides x = line();
        Check.due("in 4: d and e", x.inns(4), 1);
        Check.row("in 4: d and e", x, 8);
        Check.due("in 3", x.inns(3), 2);
        Check.row("in 3: a and e, not d and h", x, 1 + 16);
        Check.due("in 1", x.inns(1), 3);
        Check.row("in 1: a, d, g", x, 1 + 8 + 64);
    }

    private static void innsOneWay() {
        Check.sentence("33: from each PLACE one of them can be reached");
        RoadsWithTides x = Check.made("p0;p99;p0;rab1-0;rbc1-0", "2*0", "");
        Check.due("up takes 5, down 1: in 1", x.inns(1), 2);
        Check.row("down from b to a, c has its own", x, 5);
        Check.due("in 5", x.inns(5), 1);
        Check.row("in 5: up to b", x, 2);
        Check.due("in 4", x.inns(4), 2);
    }

    private static void innsRefused() {
        Check.sentence("33: NONE: another n");
        RoadsWithTides x = two("1-0", "2*0");
        x.ebb();
        for (int n : new int[] {121, -1, Integer.MIN_VALUE, Integer.MAX_VALUE}) {
            Check.due("inns(" + n + ")", x.inns(n), -1);
        }
        Check.row("the ROW stays", x, 0, 0, 0);
        Check.due("of no PLACES", new RoadsWithTides().inns(121), -1);
    }
}
