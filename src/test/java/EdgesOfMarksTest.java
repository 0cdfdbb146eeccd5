/** The edges of promises 37 to 41 (marks, and what is read from them): for each sentence that names one, a method of its own. */
public final class EdgesOfMarksTest {
    private static final int[] BAD = {-1, 21, 22, Integer.MIN_VALUE, Integer.MAX_VALUE};

    public static void main(String[] args) {
        markRefused();
        markAtItsEnds();
        markTen();
        markTwice();
        washOfNone();
        washOfTen();
        fitsWithoutMarks();
        fitsLongAtItsEnds();
        fitsHighAtItsEnds();
        fitsOnAtItsEnds();
        fitsGiveOrTake();
        fitsAllMarks();
        fitsLeast();
        fitsNone();
        fitsRefused();
        readWithoutMarks();
        readNone();
        readOne();
        readRefused();
        readAtItsEnds();
        lookatFirst();
        lookatAtItsEnds();
        lookatNone();
        lookatRefused();
        Check.finish();
    }

    private static RoadsWithTides marked(int... marks) {
        RoadsWithTides x = new RoadsWithTides();
        for (int i = 0; i + 1 < marks.length; i += 2) {
            Check.due("mark", x.mark(marks[i], marks[i + 1]), i / 2 + 1);
        }
        return x;
    }

    private static void markRefused() {
        Check.sentence("37: time t (0 .. 999), v (0 .. 180); refused: others");
        RoadsWithTides x = new RoadsWithTides();
        for (int t : new int[] {-1, 1000, Integer.MIN_VALUE, Integer.MAX_VALUE}) {
            Check.due("mark(" + t + ", 5)", x.mark(t, 5), -1);
        }
        for (int v : new int[] {-1, 181, Integer.MIN_VALUE, Integer.MAX_VALUE}) {
            Check.due("mark(5, " + v + ")", x.mark(5, v), -1);
        }
        Check.due("count(9)", x.count(9), 0);
    }

    private static void markAtItsEnds() {
        Check.sentence("37: t 0 and 999, v 0 and 180: how many such");
        RoadsWithTides x = new RoadsWithTides();
        Check.due("mark(0, 0)", x.mark(0, 0), 1);
        Check.due("mark(999, 180)", x.mark(999, 180), 2);
        Check.due("mark(0, 180)", x.mark(0, 180), 3);
        Check.due("mark(999, 0)", x.mark(999, 0), 4);
        Check.due("count(9)", x.count(9), 4);
    }

    private static void markTen() {
        Check.sentence("37: refused: 10");
        RoadsWithTides x = new RoadsWithTides();
        for (int i = 1; i <= 10; i++) {
            Check.due("mark", x.mark(0, 0), i);
        }
        Check.due("an eleventh", x.mark(1, 40), -1);
        Check.due("count(9)", x.count(9), 10);
        Check.due("it did not come", x.fits(0) > 0, true);
        Check.due("wash", x.wash(), 10);
        Check.due("there is room again", x.mark(1, 40), 1);
    }

    private static void markTwice() {
        Check.sentence("37: a mark: how many such");
        RoadsWithTides x = marked(6, 20, 6, 20);
        Check.due("count(9)", x.count(9), 2);
        int fits = x.fits(0);
        Check.due("one alone tells as much", marked(6, 20).fits(0), fits);
        Check.due("two unlike ones of a time", marked(6, 20, 6, 21).fits(0), 0);
    }

    private static void washOfNone() {
        Check.sentence("38: how many there were: none");
        RoadsWithTides x = new RoadsWithTides();
        Check.due("wash", x.wash(), 0);
        x.mark(1, 1);
        Check.due("wash", x.wash(), 1);
        Check.due("wash", x.wash(), 0);
        Check.due("count(9)", x.count(9), 0);
    }

    private static void washOfTen() {
        Check.sentence("38: they are washed off");
        RoadsWithTides x = marked(5, 41, 6, 99);
        Check.due("none fit", x.fits(0), 0);
        Check.due("wash", x.wash(), 2);
        Check.due("all fit", x.fits(0), 12259);
        x.mark(0, 0);
        Check.due("the next is the first", x.count(9), 1);
    }

    private static void fitsWithoutMarks() {
        Check.sentence("39: ROUNDS long 2 .. 24, high 0 .. 40, on by 0 .. long - 1: without marks all are so");
        RoadsWithTides x = new RoadsWithTides();
        // 2 + 3 + .. + 24 is 299, by 41
        Check.due("fits(0)", x.fits(0), 299 * 41);
        Check.row("fits(0)", x, 2, 0, 0);
        Check.due("fits(20)", x.fits(20), 299 * 41);
    }

    private static void fitsLongAtItsEnds() {
        Check.sentence("39: long 2 .. 24");
        // 40 at 12 and 0 at 0, 24 alone: high 40, long 24 (or what goes into it with its half at 12: 8), on by 0
        RoadsWithTides x = marked(0, 0, 12, 40, 6, 20, 4, 13);
        Check.due("24*40 alone", x.fits(0), 1);
        Check.row("24*40 alone", x, 24, 40, 0);
        RoadsWithTides y = marked(0, 0, 13, 40, 26, 0, 6, 18);
        Check.due("26*40 is too long", y.fits(0), 0);
        RoadsWithTides z = marked(0, 0, 1, 40, 2, 0, 3, 40);
        Check.due("2*40 alone", z.fits(0), 1);
        Check.row("2*40 alone", z, 2, 40, 0);
    }

    private static void fitsHighAtItsEnds() {
        Check.sentence("39: high 0 .. 40");
        RoadsWithTides x = marked(0, 40, 1, 0, 2, 40);
        Check.due("high 40", x.fits(0), 1);
        Check.row("high 40", x, 2, 40, 1);
        Check.due("high 41", marked(0, 41, 1, 0, 2, 41).fits(0), 0);
        RoadsWithTides y = marked(0, 0, 1, 0);
        Check.due("high 0 of each, and such as are cut to 0", y.fits(0) >= 299, true);
        Check.row("high 0", y, 2, 0, 0);
    }

    private static void fitsOnAtItsEnds() {
        Check.sentence("39: on by 0 .. long - 1");
        // 0 at 1 and 24 alone, and 23 of 24: long 24 is on by 23 at time 0 if it is 0 at 1
        RoadsWithTides x = marked(1, 0, 13, 40, 7, 20, 5, 13);
        Check.due("on by 23", x.fits(0), 1);
        Check.row("on by 23", x, 24, 40, 23);
        RoadsWithTides y = marked(0, 0, 1, 40, 2, 0);
        Check.due("on by 0, not by 2 of 2", y.fits(0), 1);
        Check.row("on by 0, not by 2 of 2", y, 2, 40, 0);
    }

    private static void fitsGiveOrTake() {
        Check.sentence("39: by which all marks are so, give or take e (0 .. 20)");
        Check.due("41 of 40, by 0", marked(5, 41).fits(0), 0);
        Check.due("41 of 40, by 1", marked(5, 41).fits(1), 12);
        Check.due("60 of 40, by 19", marked(5, 60).fits(19), 0);
        Check.due("60 of 40, by 20", marked(5, 60).fits(20), 12);
        Check.due("61 of 40, by 20", marked(5, 61).fits(20), 0);
        // by 5 of 0: the LEVEL told may be more, too
        RoadsWithTides x = marked(0, 0, 1, 35);
        x.fits(5);
        Check.row("1 .. 5 of 0, and 30 .. 35 of 35", x, 2, 30, 0);
        RoadsWithTides y = marked(0, 5, 1, 40);
        Check.due("0 is 5 less 5", y.fits(5) > 0, true);
        Check.row("0 is 5 less 5", y, 2, 35, 0);
    }

    private static void fitsAllMarks() {
        Check.sentence("39: all marks");
        RoadsWithTides x = marked(0, 0, 1, 9, 2, 0, 3, 9, 4, 0, 5, 9, 6, 0, 7, 9, 8, 0);
        Check.due("nine of 2*9", x.fits(0), 1);
        Check.row("nine of 2*9", x, 2, 9, 0);
        x.mark(9, 10);
        Check.due("the tenth is not so", x.fits(0), 0);
        Check.due("give or take 1", x.fits(1) > 0, true);
    }

    private static void fitsLeast() {
        Check.sentence("39: the least (long, high, on)");
        RoadsWithTides x = marked(0, 20);
        x.fits(0);
        Check.row("long 2, high 20, on by 1", x, 2, 20, 1);
        RoadsWithTides y = marked(0, 0, 6, 20);
        y.fits(0);
        Check.row("long 4, high 20, on by 0", y, 4, 20, 0);
        RoadsWithTides z = marked(0, 3, 2, 4);
        z.fits(0);
        Check.row("3 at 0 and 4 at 2", z, leastByHand(0, 3, 2, 4));
    }

    /** The least ROUND by which two marks are so. */
    private static int[] leastByHand(int t, int v, int other, int w) {
        for (int p = 2; p <= 24; p++) {
            for (int h = 0; h <= 40; h++) {
                for (int s = 0; s < p; s++) {
                    if (of(t, p, h, s) == v && of(other, p, h, s) == w) {
                        return new int[] {p, h, s};
                    }
                }
            }
        }
        return new int[] {};
    }

    private static void fitsNone() {
        Check.sentence("39: the ROW: nothing without");
        RoadsWithTides x = marked(0, 99);
        x.ebb();
        Check.due("fits", x.fits(20), 0);
        Check.row("fits", x);
    }

    private static void fitsRefused() {
        Check.sentence("39: NONE: another e");
        RoadsWithTides x = new RoadsWithTides();
        x.ebb();
        for (int e : BAD) {
            Check.due("fits(" + e + ")", x.fits(e), -1);
        }
        Check.row("the ROW stays", x, 6, 0, 0);
        RoadsWithTides y = marked(0, 99);
        Check.due("another e, none would fit", y.fits(21), -1);
    }

    private static void readWithoutMarks() {
        Check.sentence("40: how many different LEVELS; the least, the greatest");
        RoadsWithTides x = new RoadsWithTides();
        Check.due("read", x.read(0, 5), 41);
        Check.row("read", x, 0, 40);
    }

    private static void readNone() {
        Check.sentence("40: the least, the greatest (NONE, NONE)");
        RoadsWithTides x = marked(5, 41);
        Check.due("read", x.read(0, 5), 0);
        Check.row("read", x, -1, -1);
    }

    private static void readOne() {
        Check.sentence("40: different LEVELS: one");
        RoadsWithTides x = marked(6, 20);
        Check.due("what is known", x.read(0, 6), 1);
        Check.row("what is known", x, 20, 20);
        Check.due("give or take 1", x.read(1, 6), 3);
        Check.row("give or take 1", x, 19, 21);
        RoadsWithTides y = marked(6, 0);
        Check.due("it is 0", y.read(0, 6), 1);
        Check.row("it is 0", y, 0, 0);
        RoadsWithTides z = marked(6, 40);
        Check.due("it is 40", z.read(0, 6), 1);
        Check.row("it is 40", z, 40, 40);
    }

    private static void readRefused() {
        Check.sentence("40: NONE: others");
        RoadsWithTides x = new RoadsWithTides();
        x.ebb();
        for (int e : BAD) {
            Check.due("read(" + e + ", 5)", x.read(e, 5), -1);
        }
        for (int t : new int[] {-1, 1000, Integer.MIN_VALUE, Integer.MAX_VALUE}) {
            Check.due("read(0, " + t + ")", x.read(0, t), -1);
        }
        Check.row("the ROW stays", x, 6, 0, 0);
    }

    private static void readAtItsEnds() {
        Check.sentence("40: time t (0 .. 999), e (0 .. 20)");
        RoadsWithTides x = marked(0, 7, 999, 30);
        Check.due("time 0", x.read(0, 0), 1);
        Check.row("time 0", x, 7, 7);
        Check.due("time 999", x.read(0, 999), 1);
        Check.row("time 999", x, 30, 30);
        x.wash();
        x.mark(3, 20);
        Check.due("by 20", x.read(20, 3), 41);
        Check.row("by 20", x, 0, 40);
    }

    private static void lookatFirst() {
        Check.sentence("41: of equal ones the first");
        RoadsWithTides x = new RoadsWithTides();
        Check.due("all are alike", x.lookat(0), 0);
        Check.row("all are alike", x, 41);
        x.pass(99);
        Check.due("all are alike, at 99", x.lookat(0), 99);
        RoadsWithTides y = marked(0, 0, 1, 7, 2, 0, 3, 7);
        Check.due("2*7 alone", y.fits(0), 1);
        Check.due("one each", y.lookat(0), 0);
        Check.row("one each", y, 1);
        RoadsWithTides z = marked(0, 20);
        Check.due("what is known is not looked at", z.lookat(0) > 0, true);
        RoadsWithTides w = marked(4, 0, 7, 0);
        Check.due("5 and 6 are not known, the first of them", w.lookat(0), lookedAtByHand(0, 4, 0, 7, 0));
        w.pass(4);
        Check.due("5 and 6 are not known, from 4 on", w.lookat(0), lookedAtByHand(4, 4, 0, 7, 0));
        RoadsWithTides v = marked(1, 40, 3, 40);
        for (int now = 0; now < 12; now++) {
            Check.due("lookat at " + now, v.lookat(0), lookedAtByHand(now, 1, 40, 3, 40));
            v.pass(1);
        }
    }

    /** The first time NOW .. NOW + 23 of most LEVELS, by two marks. */
    private static int lookedAtByHand(int now, int t, int v, int other, int w) {
        int best = now;
        int most = 0;
        for (int time = now; time <= now + 23; time++) {
            boolean[] told = new boolean[41];
            for (int p = 2; p <= 24; p++) {
                for (int h = 0; h <= 40; h++) {
                    for (int s = 0; s < p; s++) {
                        if (of(t, p, h, s) == v && of(other, p, h, s) == w) {
                            told[of(time, p, h, s)] = true;
                        }
                    }
                }
            }
            int many = 0;
            for (boolean one : told) {
                many += one ? 1 : 0;
            }
            best = many > most ? time : best;
            most = Math.max(many, most);
        }
        return best;
    }

    private static int of(int t, int p, int h, int s) {
        int x = (t + s) % p;
        return h * 2 * Math.min(x, p - x) / p;
    }

    private static void lookatAtItsEnds() {
        Check.sentence("41: the time NOW .. NOW + 23");
        RoadsWithTides y = marked(13, 8, 25, 24, 2, 18);
        Check.due("not at 24, where there are more", y.lookat(2), 0);
        Check.row("not at 24, where there are more", y, 13);
        y.pass(1);
        Check.due("at 24, that is NOW + 23", y.lookat(2), 24);
        Check.row("at 24, that is NOW + 23", y, 14);
        y.pass(24);
        Check.due("24 is over", y.lookat(2) > 24, true);
    }

    private static void lookatNone() {
        Check.sentence("41: -2: there are no such");
        RoadsWithTides x = marked(5, 61);
        Check.due("by 20", x.lookat(20), -2);
        Check.due("by 0", x.lookat(0), -2);
        Check.due("by 20, of 60", marked(5, 60).lookat(20) >= 0, true);
    }

    private static void lookatRefused() {
        Check.sentence("41: NONE: another e");
        RoadsWithTides x = marked(5, 61);
        x.ebb();
        for (int e : BAD) {
            Check.due("lookat(" + e + ")", x.lookat(e), -1);
        }
        Check.row("the ROW stays", x, 6, 0, 0);
    }
}
