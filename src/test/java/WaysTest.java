import java.util.ArrayList;
import java.util.List;
import java.util.Random;

/** Promises 27 to 33: told ways, and ways of random flats against trying all there are. */
public final class WaysTest {
    private static final int NEVER = 9999;
    private static final int TRIES = 3000000;

    private static int places;
    private static int[][] roads;
    private static int[] level;
    private static int[][] takes;
    private static int[] height;
    private static int margin;
    private static int goal;
    private static int bestTime;
    private static List<Integer> bestRow;
    private static int tries;

    public static void main(String[] args) {
        told();
        leastRows();
        refused();
        manyPlaces();
        Random random = new Random(11);
        int whole = 0;
        for (int run = 0; run < 400; run++) {
            whole += compare(random) ? 1 : 0;
        }
        Check.due("most ways were tried wholly", whole > 300, true);
        Check.finish();
    }

    private static void told() {
        RoadsWithTides x = Check.made("p10;p50;p20;rab2-10;rbc3-5;rac9-15", "12*20", "");
        Check.due("soonest", x.soonest(0, 2), 10);
        Check.row("soonest", x, 3, 0, 7, 1);
        Check.due("soonest to itself", x.soonest(1, 1), 0);
        Check.row("soonest to itself", x);
        Check.due("safe by 3", x.safe(0, 1, 3), 7);
        Check.row("safe by 3", x, 3, 0);
        Check.due("safe by 4", x.safe(0, 1, 4), -2);
        Check.row("safe by 4: the ROW stays", x, 3, 0);
        Check.due("safe to itself", x.safe(2, 2, 20), 0);
        Check.due("latest", x.latest(0, 1, 12), 6);
        Check.due("latest, just", x.latest(0, 1, 7), 3);
        Check.due("latest, none", x.latest(0, 1, 6), -2);
        Check.due("latest in 0", x.latest(0, 1, 0), -2);
        Check.due("within", x.within(0, 9), 3);
        Check.row("within", x, 2, 1, 7);
        Check.due("within 0", x.within(2, 0), 4);
        Check.row("within 0", x, 1, 2, 0);
        Check.due("cutoff", x.cutoff(0), 0);
        Check.due("carrier", x.carrier(0, 6), 20);
        Check.row("carrier", x, 1, 2);
        Check.due("inns", x.inns(5), 2);
        Check.row("inns", x, 5);
        Check.due("inns of no PLACES", new RoadsWithTides().inns(0), 0);
    }

    private static void leastRows() {
        RoadsWithTides x = Check.made("p0;p0;p0;rac2-0;rab1-0;rbc1-0;rac2-0", "2*0", "");
        Check.due("as soon ones", x.soonest(0, 2), 2);
        Check.row("as soon ones", x, 0, 0);
        RoadsWithTides y = Check.made("p0;p0;p0;rab1-0;rbc1-0;rac2-0", "2*0", "");
        Check.due("the least row, not the shortest", y.soonest(0, 2), 2);
        Check.row("the least row, not the shortest", y, 0, 0, 1, 1);
        RoadsWithTides z = Check.made("p0;p0;p0;rab1-0;rab1-0;rbc1-0;rac1-1", "2*1", "");
        Check.due("set out soon, though one waits then", z.soonest(0, 2), 2);
        Check.row("set out soon, though one waits then", z, 0, 0, 1, 2);
        RoadsWithTides w = Check.made("p0;p0;rab1-9;rab1-9", "9*9", "");
        Check.due("not there at all", w.soonest(0, 1), -2);
        Check.due("cut off", w.cutoff(0), 2);
        Check.due("within 120", w.within(1, 120), 2);
        Check.row("within 120", w, 1, 1, 0);
        RoadsWithTides v = Check.made("p0;p0;p0;p0;rab1-0;rac1-0;rcd1-9;rbd1-9", "60*9/31", "");
        Check.due("a long wait", v.soonest(0, 3), 60);
        Check.row("a long wait", v, 0, 0, 59, 3);
        Check.due("the longest, the first of equal ones", v.within(0, 10), 7);
        Check.row("the longest, the first of equal ones", v, 3, 1, 1);
        Check.due("the longest is ahead", v.within(1, 1), 3);
        Check.row("the longest is ahead", v, 2, 0, 1);
        Check.due("carrier by numbers", v.carrier(0, 6), 4);
        Check.row("carrier by numbers", v, 1, 2);
        Check.due("carrier, none but it", v.carrier(3, 8), 0);
        Check.row("carrier, none but it", v);
    }

    private static void refused() {
        RoadsWithTides x = Check.made("p10;p50;p20;rab2-10;rbc3-5;rac9-15", "12*20", "");
        int[] bad = {-1, 3, Integer.MIN_VALUE, Integer.MAX_VALUE};
        for (int p : bad) {
            Check.due("soonest from " + p, x.soonest(p, 0), -1);
            Check.due("soonest to " + p, x.soonest(0, p), -1);
            Check.due("latest from " + p, x.latest(p, 0, 5), -1);
            Check.due("latest to " + p, x.latest(0, p, 5), -1);
            Check.due("safe from " + p, x.safe(p, 0, 5), -1);
            Check.due("safe to " + p, x.safe(0, p, 5), -1);
            Check.due("within from " + p, x.within(p, 5), -1);
            Check.due("cutoff from " + p, x.cutoff(p), -1);
            Check.due("carrier from " + p, x.carrier(p, 1), -1);
        }
        int[] far = {-1, 121, Integer.MIN_VALUE};
        for (int n : far) {
            Check.due("latest in " + n, x.latest(0, 1, n), -1);
            Check.due("within " + n, x.within(0, n), -1);
            Check.due("inns " + n, x.inns(n), -1);
        }
        Check.due("latest, like ones", x.latest(1, 1, 5), -1);
        Check.due("safe by -1", x.safe(0, 1, -1), -1);
        Check.due("safe by 21", x.safe(0, 1, 21), -1);
        Check.due("safe by 20", x.safe(0, 1, 20), -2);
        Check.due("carrier, bits of none", x.carrier(0, 8), -1);
        Check.due("carrier, bits below 0", x.carrier(0, -1), -1);
        Check.due("carrier, the highest bit", x.carrier(0, Integer.MIN_VALUE), -1);
    }

    private static void manyPlaces() {
        RoadsWithTides x = Check.made("p0;p0;p0;p0;p0;p0;p0;p0", "2*0", "");
        Check.flats(x, "rab1-0;rbc1-0;rcd1-0;rde1-0;ref1-0;rfg1-0;rgh1-0;rha1-0");
        Check.due("carrier to seven besides", x.carrier(0, 255), -3);
        Check.due("carrier to seven besides", x.carrier(3, 247), -3);
        Check.due("carrier to six besides it", x.carrier(0, 127), 8);
        Check.row("carrier to six besides it", x, 1, 2, 3, 4, 5, 6);
        Check.due("carrier to six, it not told", x.carrier(0, 126), 8);
        Check.due("half round", x.soonest(0, 4), 4);
        Check.due("inns all round", x.inns(1), 3);
        Check.row("inns all round", x, 1 | 4 | 32);
        x.sheet(2, 12, 5, 0);
        Check.due("carrier not in 120", x.carrier(0, 2), -2);
        Check.due("seven besides, not in 120", x.carrier(0, 255), -3);
        Check.due("inns everywhere", x.inns(120), 8);
        Check.row("inns everywhere", x, 255);
        RoadsWithTides y = Check.made("p0;p0;p0;p0;p0;p0;p0;p0", "2*0", "");
        Check.flats(y, "rab1-0;rbc1-0;rcd1-0;rde1-0;ref1-0;rfg1-0;rgh1-0");
        Check.due("the longest way", y.soonest(0, 7), 7);
        Check.row("the longest way", y, 0, 0, 1, 1, 2, 2, 3, 3, 4, 4, 5, 5, 6, 6);
        Check.due("the latest by it", y.latest(0, 7, 120), 113);
        Check.rule(y, "20");
        Check.due("six of 20", y.soonest(0, 6), 120);
        Check.due("seven of 20", y.soonest(0, 7), -2);
        Check.due("cut off by length", y.cutoff(0), 128);
        Check.due("latest by length", y.latest(0, 6, 120), 0);
        Check.due("latest by length", y.latest(0, 6, 119), -2);
        Check.due("carrier back in 120", y.carrier(0, 8), 120);
        Check.due("carrier back in 160", y.carrier(0, 16), -2);
        Check.rule(y, "s+l*5");
        Check.due("ways are without LOAD", y.soonest(0, 1), 1);
        Check.due("ways are without LOAD, back", y.soonest(1, 0), 1);
    }

    private static boolean compare(Random random) {
        RoadsWithTides x = make(random);
        String name = "run of " + places + " places, " + roads.length + " roads";
        boolean whole = true;
        for (int from = 0; from < places; from++) {
            int to = random.nextInt(places);
            margin = 0;
            int[] soon = spread(from, 0);
            whole &= compareWay(name, x.soonest(from, to), x, from, to, soon[to]);
            int n = random.nextInt(121);
            int reached = 0;
            int longest = from;
            for (int p = places - 1; p >= 0; p--) {
                if (soon[p] <= n) {
                    reached |= 1 << p;
                    longest = soon[p] >= soon[longest] ? p : longest;
                }
            }
            Check.due(name + ": within", x.within(from, n), reached);
            Check.row(name + ": within", x, Integer.bitCount(reached), longest, soon[longest]);
            int cut = 0;
            for (int p = 0; p < places; p++) {
                cut |= soon[p] > 120 ? 1 << p : 0;
            }
            Check.due(name + ": cutoff", x.cutoff(from), cut);
            int late = -2;
            for (int t = 0; t <= n; t++) {
                late = spread(from, t)[to] <= n ? t : late;
            }
            Check.due(name + ": latest " + from + to + n, x.latest(from, to, n), from == to ? -1 : late);
            compareCarrier(name, x, from, random.nextInt(1 << places));
            margin = random.nextInt(random.nextBoolean() ? 5 : 21);
            whole &= compareWay(name + " safe", x.safe(from, to, margin), x, from, to, spread(from, 0)[to]);
        }
        margin = 0;
        compareInns(name, x, random.nextInt(60));
        return whole;
    }

    private static RoadsWithTides make(Random random) {
        places = 2 + random.nextInt(4);
        StringBuilder flats = new StringBuilder();
        int[] high = new int[places];
        for (int p = 0; p < places; p++) {
            high[p] = random.nextInt(100);
            flats.append(p == 0 ? "p" : ";p").append(high[p]);
        }
        roads = new int[1 + random.nextInt(6)][];
        takes = new int[roads.length][2];
        height = new int[roads.length];
        for (int r = 0; r < roads.length; r++) {
            int one = random.nextInt(places);
            int other = (one + 1 + random.nextInt(places - 1)) % places;
            int steps = 1 + random.nextInt(random.nextBoolean() ? 3 : 9);
            height[r] = random.nextInt(random.nextBoolean() ? 10 : 60);
            roads[r] = new int[] {one, other};
            takes[r][0] = Math.min(20, steps + Math.max(0, high[other] - high[one]) / 20);
            takes[r][1] = Math.min(20, steps + Math.max(0, high[one] - high[other]) / 20);
            flats.append(";r").append((char) ('a' + one)).append((char) ('a' + other)).append(steps).append('-').append(height[r]);
        }
        int p = 2 + random.nextInt(59);
        int h = random.nextInt(61);
        int q = 2 + random.nextInt(20);
        int g = random.nextInt(31);
        RoadsWithTides x = Check.made(flats.toString(), p + "*" + h + "+" + q + "*" + g, "");
        int now = random.nextInt(100);
        x.pass(now);
        level = new int[200];
        for (int t = 0; t < level.length; t++) {
            int one = (now + t) % p;
            int two = (now + t) % q;
            level[t] = h * 2 * Math.min(one, p - one) / p + g * 2 * Math.min(two, q - two) / q;
        }
        return x;
    }

    private static boolean canGo(int road, int way, int t) {
        for (int i = 0; i < takes[road][way] + margin; i++) {
            if (level[t + i] < height[road]) {
                return false;
            }
        }
        return t + takes[road][way] <= 120;
    }

    /** By times: where one can be at each. */
    private static int[] spread(int from, int start) {
        boolean[][] at = new boolean[121][places];
        int[] soon = new int[places];
        java.util.Arrays.fill(soon, NEVER);
        for (int t = start; t <= 120; t++) {
            at[t][from] = true;
            for (int p = 0; p < places; p++) {
                at[t][p] |= t > start && at[t - 1][p];
                soon[p] = at[t][p] && soon[p] == NEVER ? t : soon[p];
            }
            for (int r = 0; r < roads.length; r++) {
                for (int way = 0; way < 2; way++) {
                    if (at[t][roads[r][way]] && canGo(r, way, t)) {
                        at[t + takes[r][way]][roads[r][1 - way]] = true;
                    }
                }
            }
        }
        return soon;
    }

    private static boolean compareWay(String name, int got, RoadsWithTides x, int from, int to, int want) {
        Check.due(name + ": soonest", got, want == NEVER ? -2 : want);
        if (want == NEVER) {
            return true;
        }
        goal = to;
        bestTime = want;
        bestRow = null;
        tries = 0;
        tryAll(from, 0, 0, new ArrayList<>());
        if (tries > TRIES) {
            return false;
        }
        int[] row = new int[bestRow.size()];
        for (int i = 0; i < row.length; i++) {
            row[i] = bestRow.get(i);
        }
        Check.row(name + ": the least row", x, row);
        return true;
    }

    /** All ways that are in time, from the least row on. */
    private static boolean tryAll(int place, int time, int been, List<Integer> row) {
        if (place == goal) {
            bestRow = new ArrayList<>(row);
            return true;
        }
        for (int t = time; t <= bestTime; t++) {
            for (int r = 0; r < roads.length; r++) {
                for (int way = 0; way < 2; way++) {
                    int end = roads[r][1 - way];
                    if (roads[r][way] != place || (been >> end & 1) != 0 || !canGo(r, way, t)
                            || t + takes[r][way] > bestTime) {
                        continue;
                    }
                    if (++tries > TRIES) {
                        return true;
                    }
                    row.add(t);
                    row.add(r);
                    if (tryAll(end, t + takes[r][way], been | 1 << place, row)) {
                        return true;
                    }
                    row.remove(row.size() - 1);
                    row.remove(row.size() - 1);
                }
            }
        }
        return false;
    }

    private static void compareCarrier(String name, RoadsWithTides x, int from, int those) {
        bestTime = NEVER;
        bestRow = null;
        callAll(from, from, 0, those & ~(1 << from), new ArrayList<>());
        Check.due(name + ": carrier", x.carrier(from, those), bestTime > 120 ? -2 : bestTime);
        if (bestTime <= 120) {
            int[] row = new int[bestRow.size()];
            for (int i = 0; i < row.length; i++) {
                row[i] = bestRow.get(i);
            }
            Check.row(name + ": carrier", x, row);
        }
    }

    private static void callAll(int home, int place, int time, int those, List<Integer> row) {
        int[] soon = spread(place, time);
        if (those == 0) {
            if (soon[home] < bestTime) {
                bestTime = soon[home];
                bestRow = new ArrayList<>(row);
            }
            return;
        }
        for (int p = 0; p < places; p++) {
            if ((those >> p & 1) != 0 && soon[p] <= 120) {
                row.add(p);
                callAll(home, p, soon[p], those & ~(1 << p), row);
                row.remove(row.size() - 1);
            }
        }
    }

    private static void compareInns(String name, RoadsWithTides x, int n) {
        int best = -1;
        for (int those = 0; those < 1 << places; those++) {
            boolean serves = true;
            for (int p = 0; p < places; p++) {
                int[] soon = spread(p, 0);
                boolean one = false;
                for (int inn = 0; inn < places; inn++) {
                    one |= (those >> inn & 1) != 0 && soon[inn] <= n;
                }
                serves &= one;
            }
            if (serves && (best < 0 || Integer.bitCount(those) < Integer.bitCount(best))) {
                best = those;
            }
        }
        Check.due(name + ": inns", x.inns(n), Integer.bitCount(best));
        Check.row(name + ": inns", x, best);
    }
}
