import java.util.Random;

/** Promises 21 to 26: LEVEL and tables, told ones and such as a plain reckoning tells them. */
public final class TablesTest {
    public static void main(String[] args) {
        told();
        edges();
        Random random = new Random(5);
        for (int run = 0; run < 300; run++) {
            compare(random);
        }
        Check.finish();
    }

    private static void told() {
        RoadsWithTides x = Check.made("p1;p2;rab1-10;rab1-0;rab1-21;rab1-20", "12*20", "");
        Check.due("level(3)", x.level(3), 10);
        Check.row("level(3)", x, 1);
        Check.due("level(6)", x.level(6), 20);
        Check.row("level(6)", x, -1);
        Check.due("level(120)", x.level(120), 0);
        Check.row("level(120)", x, 1);
        Check.due("table", x.table(0, 120), 70);
        Check.row("table", x, 3, 117, 7, 3);
        Check.due("table of a part", x.table(0, 5), 2);
        Check.row("table of a part", x, 3, 4, 2, 3);
        Check.due("table of none", x.table(2, 120), 0);
        Check.row("table of none", x, -1, -1, 0, -1);
        Check.due("comes, for ever", x.comes(1), 0);
        Check.row("comes, for ever", x, 120);
        Check.due("comes at the height", x.comes(3), 6);
        Check.row("comes at the height", x, 1);
        Check.due("comes never", x.comes(2), -2);
        Check.row("comes never: the ROW stays", x, 1);
        x.pass(5);
        Check.due("comes now", x.comes(0), 0);
        Check.row("comes now", x, 5);
        Check.due("level(0) at 5", x.level(0), 16);
        Check.due("ebb at 5", x.ebb(), 20);
        Check.row("ebb at 5", x, 1, 0, 7);
        Check.due("table at 5", x.table(0, 12), 7);
        Check.row("table at 5", x, 0, 11, 5, 0);
        Check.tide(x, "5*10");
        Check.due("slack of 5*10 at 5", x.slack(), 24);
        Check.row("slack", x, 2, 1);
        Check.due("period", x.period(), 5);
        Check.tide(x, "24*1+40*1");
        Check.due("period 120", x.period(), 120);
        Check.tide(x, "11*1+11*1");
        Check.due("period 11", x.period(), 11);
        Check.tide(x, "11*1+12*1");
        Check.due("period above 120", x.period(), -2);
        Check.tide(x, "2*1+3*1+4*0");
        Check.due("period of three", x.period(), 12);
    }

    private static void edges() {
        RoadsWithTides x = Check.made("p1;p2;rab1-10", "12*20", "");
        x.ebb();
        Check.due("level(-1)", x.level(-1), -1);
        Check.due("level(121)", x.level(121), -1);
        Check.due("table, n 0", x.table(0, 0), -1);
        Check.due("table, n 121", x.table(0, 121), -1);
        Check.due("table, road 1", x.table(1, 5), -1);
        Check.due("table, road -1", x.table(-1, 5), -1);
        Check.due("comes, road 1", x.comes(1), -1);
        Check.due("comes, road -1", x.comes(-1), -1);
        Check.row("the ROW stays", x, 6, 0, 0);
        RoadsWithTides y = Check.made("p1;p2;rab1-58", "60*58", "");
        y.pass(31);
        Check.due("comes late", y.comes(0), 59);
        Check.row("comes late", y, 1);
        RoadsWithTides z = Check.made("p1;p2;rab1-20", "22*10+14*10", "");
        z.pass(99);
        z.pass(11);
        Check.due("comes in 121", z.comes(0), -2);
        z.pass(1);
        Check.due("comes in 120", z.comes(0), 120);
        Check.row("comes in 120", z, 1);
        Check.tide(y, "2*0");
        Check.due("slack when it is still", y.slack(), 120);
        Check.row("slack when it is still", y, 0, 0);
        Check.due("ebb when it is still", y.ebb(), 0);
        Check.row("ebb when it is still", y, 0, 0, 0);
        Check.due("level when it is still", y.level(7), 0);
        Check.row("level when it is still", y, 0);
        Check.tide(y, "2*9");
        Check.due("no slack", y.slack(), 0);
        Check.row("no slack", y, -1, 0);
    }

    private static void compare(Random random) {
        int rounds = 1 + random.nextInt(3);
        int[][] round = new int[rounds][];
        StringBuilder tide = new StringBuilder();
        for (int i = 0; i < rounds; i++) {
            round[i] = new int[] {2 + random.nextInt(59), random.nextInt(61), random.nextInt(60)};
            tide.append(i == 0 ? "" : "+").append(round[i][0]).append('*').append(round[i][1]).append('/').append(round[i][2]);
        }
        int height = random.nextInt(100);
        RoadsWithTides x = Check.made("p1;p2;rab1-" + height, tide.toString(), "");
        int now = random.nextInt(3) * random.nextInt(100);
        x.pass(now % 100);
        x.pass(now - now % 100 > 99 ? 99 : 0);
        int base = x.count(3);
        int[] level = new int[300];
        for (int t = 0; t < level.length; t++) {
            for (int[] one : round) {
                int rest = (base + t + one[2]) % one[0];
                level[t] += one[1] * 2 * Math.min(rest, one[0] - rest) / one[0];
            }
        }
        String name = tide + " at " + base + ", " + height;
        for (int n = 0; n <= 120; n += 7) {
            Check.due(name + ": level", x.level(n), level[n]);
            Check.row(name + ": level", x, Integer.compare(level[n + 1], level[n]));
        }
        compareTable(x, name, level, height, 1 + random.nextInt(120));
        compareRest(x, name, level, height);
    }

    private static void compareTable(RoadsWithTides x, String name, int[] level, int height, int n) {
        int many = 0;
        int first = -1;
        int last = -1;
        int most = 0;
        int from = -1;
        for (int t = n - 1; t >= 0; t--) {
            int run = 0;
            while (t + run < n && level[t + run] >= height) {
                run++;
            }
            if (run > 0) {
                many++;
                first = t;
                last = last < 0 ? t : last;
            }
            if (run > 0 && run >= most) {
                most = run;
                from = t;
            }
        }
        Check.due(name + ": table " + n, x.table(0, n), many);
        Check.row(name + ": table " + n, x, first, last, most, from);
    }

    private static void compareRest(RoadsWithTides x, String name, int[] level, int height) {
        int comes = 0;
        while (comes <= 120 && level[comes] < height) {
            comes++;
        }
        Check.due(name + ": comes", x.comes(0), comes > 120 ? -2 : comes);
        if (comes <= 120) {
            int run = 0;
            while (run < 120 && level[comes + run] >= height) {
                run++;
            }
            Check.row(name + ": comes", x, run);
        }
        int high = 0;
        int low = 0;
        int slack = 0;
        int still = -1;
        for (int t = 0; t <= 120; t++) {
            high = level[t] > level[high] ? t : high;
            low = level[t] < level[low] ? t : low;
            if (t < 120 && level[t] == level[t + 1]) {
                slack++;
                still = still < 0 ? t : still;
            }
        }
        Check.due(name + ": ebb", x.ebb(), level[high]);
        Check.row(name + ": ebb", x, high, level[low], low);
        Check.due(name + ": slack", x.slack(), slack);
        Check.row(name + ": slack", x, still, still >= 0 && level[still] >= height ? 1 : 0);
    }
}
