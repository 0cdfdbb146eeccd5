import java.util.Random;
import java.util.TreeSet;

/** Promises 37 to 41: marks, and the ROUNDS that are read from them. */
public final class MarksTest {
    public static void main(String[] args) {
        told();
        refused();
        Random random = new Random(9);
        for (int run = 0; run < 60; run++) {
            compare(random);
        }
        Check.finish();
    }

    private static void told() {
        RoadsWithTides x = new RoadsWithTides();
        Check.due("without marks", x.fits(0), 12259);
        Check.row("without marks", x, 2, 0, 0);
        Check.due("read without marks", x.read(0, 0), 41);
        Check.row("read without marks", x, 0, 40);
        Check.due("lookat without marks", x.lookat(0), 0);
        Check.row("lookat without marks", x, 41);
        Check.due("mark", x.mark(0, 0), 1);
        Check.due("mark", x.mark(6, 20), 2);
        Check.due("fits", x.fits(0), 27);
        Check.row("fits", x, 4, 20, 0);
        Check.due("read", x.read(0, 3), 5);
        Check.row("read", x, 10, 30);
        Check.due("read what is known", x.read(0, 6), 1);
        Check.row("read what is known", x, 20, 20);
        Check.due("a mark twice", x.mark(6, 20), 3);
        Check.due("as before", x.fits(0), 27);
        Check.due("wash", x.wash(), 3);
        Check.due("none are left", x.count(9), 0);
        Check.due("wash", x.wash(), 0);
        x.mark(5, 41);
        Check.due("none fit", x.fits(0), 0);
        Check.row("none fit", x);
        Check.due("read, none fit", x.read(0, 1), 0);
        Check.row("read, none fit", x, -1, -1);
        Check.due("lookat, none fit", x.lookat(0), -2);
        Check.row("lookat, none fit: the ROW stays", x, -1, -1);
        Check.due("give or take 1", x.fits(1), 12);
        x.pass(40);
        Check.due("lookat is from NOW on", x.lookat(1) >= 40, true);
        RoadsWithTides y = new RoadsWithTides();
        y.mark(13, 8);
        y.mark(25, 24);
        y.mark(2, 18);
        Check.due("lookat, not at NOW + 24 where there are 14", y.lookat(2), 0);
        Check.row("lookat, not at NOW + 24 where there are 14", y, 13);
    }

    private static void refused() {
        RoadsWithTides x = new RoadsWithTides();
        Check.due("mark, t -1", x.mark(-1, 0), -1);
        Check.due("mark, t 1000", x.mark(1000, 0), -1);
        Check.due("mark, v -1", x.mark(0, -1), -1);
        Check.due("mark, v 181", x.mark(0, 181), -1);
        Check.due("mark at the edge", x.mark(999, 180), 1);
        Check.due("none fit", x.fits(20), 0);
        for (int i = 2; i <= 10; i++) {
            Check.due("mark", x.mark(i, 0), i);
        }
        Check.due("an eleventh", x.mark(0, 0), -1);
        Check.due("marks", x.count(9), 10);
        int[] bad = {-1, 21, Integer.MIN_VALUE, Integer.MAX_VALUE};
        for (int e : bad) {
            Check.due("fits " + e, x.fits(e), -1);
            Check.due("read " + e, x.read(e, 0), -1);
            Check.due("lookat " + e, x.lookat(e), -1);
        }
        Check.due("read, t -1", x.read(0, -1), -1);
        Check.due("read, t 1000", x.read(0, 1000), -1);
        Check.due("read, t 999", x.read(0, 999), 0);
    }

    private static int level(int t, int p, int h, int s) {
        int rest = (t + s) % p;
        return 2 * h * Math.min(rest, p - rest) / p;
    }

    private static void compare(Random random) {
        RoadsWithTides x = new RoadsWithTides();
        int p = 2 + random.nextInt(23);
        int h = random.nextInt(41);
        int s = random.nextInt(p);
        int e = random.nextInt(random.nextBoolean() ? 3 : 21);
        int marks = random.nextInt(6);
        int[][] mark = new int[marks][];
        for (int i = 0; i < marks; i++) {
            int t = random.nextInt(1000);
            mark[i] = new int[] {t, Math.max(0, level(t, p, h, s) + random.nextInt(2 * e + 1) - e)};
            x.mark(mark[i][0], mark[i][1]);
        }
        int now = random.nextInt(100);
        x.pass(now);
        int time = random.nextInt(1000);
        int fits = 0;
        int[] least = {};
        TreeSet<Integer> told = new TreeSet<>();
        boolean[][] seen = new boolean[24][41];
        for (int a = 24; a >= 2; a--) {
            for (int b = 40; b >= 0; b--) {
                for (int c = a - 1; c >= 0; c--) {
                    boolean so = true;
                    for (int[] one : mark) {
                        so &= Math.abs(level(one[0], a, b, c) - one[1]) <= e;
                    }
                    if (so) {
                        fits++;
                        least = new int[] {a, b, c};
                        told.add(level(time, a, b, c));
                        for (int k = 0; k < 24; k++) {
                            seen[k][level(now + k, a, b, c)] = true;
                        }
                    }
                }
            }
        }
        Check.due("fits", x.fits(e), fits);
        Check.row("fits", x, least);
        Check.due("read", x.read(e, time), told.size());
        Check.row("read", x, told.first(), told.last());
        int when = 0;
        int most = 0;
        for (int k = 0; k < 24; k++) {
            int many = 0;
            for (boolean one : seen[k]) {
                many += one ? 1 : 0;
            }
            when = many > most ? k : when;
            most = Math.max(most, many);
        }
        Check.due("lookat", x.lookat(e), now + when);
        Check.row("lookat", x, most);
    }
}
