import java.util.NoSuchElementException;
import java.util.Random;

/** Any runs of calls of 512 at most, right and wrong ones: each answer and ROW against the document told a second time. */
public final class ModelTest {
    private static final int CALLS = 512;
    private static final int RUNS = 500;

    private static RoadsWithTides x;
    private static Model model;
    private static Random random;
    private static int calls;
    private static int run;

    private interface Call {
        int ask();
    }

    public static void main(String[] args) {
        for (run = 0; run < RUNS; run++) {
            random = new Random(run);
            x = new RoadsWithTides();
            model = new Model();
            calls = 0;
            for (int i = 0; i < 4 && model.count(1) < run % 9; i++) {
                tell(flats(true));
                same("flats", () -> x.flats(), () -> model.flats());
            }
            tell(carts(true));
            same("carts", () -> x.carts(), () -> model.carts());
            while (calls < CALLS - 40) {
                step();
            }
        }
        Check.finish();
    }

    private static int answer(Call call) {
        try {
            return call.ask();
        } catch (NoSuchElementException e) {
            return -999;
        }
    }

    /** One call of both, and the ROW. */
    private static void same(String name, Call one, Call other) {
        String call = "run " + run + ", call " + calls + ": " + name;
        calls += 2;
        int want = answer(other);
        Check.due(call, answer(one), want);
        Check.due(call + ": numbers of the ROW", x.count(11), model.row.size());
        for (int i = 0; i < model.row.size() && i < x.count(11); i++) {
            calls += i == 0 || random.nextInt(3) == 0 ? 1 : 0;
            Check.due(call + ": row(" + i + ")", x.row(i), model.row.get(i));
        }
    }

    private static void tell(String text) {
        Check.tell(x, text);
        model.end(0);
        for (int i = 0; i < text.length(); i += 4) {
            int v = 0;
            for (int k = 0; k < 4; k++) {
                v = v << 8 | (i + k < text.length() ? text.charAt(i + k) : 0);
            }
            model.sign(v);
        }
        model.end(text.length());
        calls += 2 + (text.length() + 3) / 4;
    }

    /** Mostly a number that is right, at times one beside it or far off. */
    private static int near(int least, int most) {
        int kind = random.nextInt(20);
        if (kind == 0) {
            return least - 1;
        }
        if (kind == 1) {
            return most + 1;
        }
        if (kind == 2) {
            return random.nextBoolean() ? least : most;
        }
        if (kind == 3 && random.nextInt(5) == 0) {
            return random.nextInt();
        }
        return least + random.nextInt(Math.max(1, most - least + 1));
    }

    private static int aPlace() {
        return near(0, model.count(0) - 1);
    }

    private static int aRoad() {
        return near(0, model.count(1) - 1);
    }

    private static int aCart() {
        return near(0, model.count(2) - 1);
    }

    private static char letter(int places) {
        return (char) ('a' + random.nextInt(Math.max(1, places + (random.nextInt(30) == 0 ? 1 : 0))));
    }

    private static String flats(boolean many) {
        StringBuilder text = new StringBuilder();
        int places = model.count(0);
        while (text.length() < (many ? 55 : 12)) {
            text.append(text.length() == 0 ? "" : ";");
            if (places < 3 || random.nextInt(4) == 0) {
                text.append('p').append(random.nextInt(100));
                places++;
            } else {
                text.append('r').append(letter(places)).append(letter(places)).append(1 + random.nextInt(random.nextBoolean() ? 3 : 9));
                if (text.charAt(text.length() - 2) == text.charAt(text.length() - 3) && random.nextInt(10) != 0) {
                    char one = text.charAt(text.length() - 3);
                    text.setCharAt(text.length() - 2, (char) (one == 'a' ? 'b' : one - 1));
                }
                text.append('-').append(random.nextInt(random.nextBoolean() ? 12 : 30));
            }
        }
        return spoilt(text);
    }

    private static String carts(boolean many) {
        StringBuilder text = new StringBuilder();
        for (int i = random.nextInt(many ? 5 : 2); i >= 0; i--) {
            text.append(letter(model.count(0))).append(random.nextInt(10)).append(random.nextInt(3) == 0 ? "*" : "");
            text.append(i == 0 ? "" : ";");
        }
        return spoilt(text);
    }

    private static String tide() {
        StringBuilder text = new StringBuilder();
        for (int i = random.nextInt(3); i >= 0; i--) {
            text.append(2 + random.nextInt(random.nextBoolean() ? 59 : 15)).append('*').append(random.nextInt(40));
            text.append(random.nextBoolean() ? "/" + random.nextInt(60) : "").append(i == 0 ? "" : "+");
        }
        return spoilt(text);
    }

    private static String rule() {
        String[] rules = {"s", "s+l", "s+l/2+(u>0)*u/20", "-(u-s)/(h-10)", "r+1", "(h>10)*5+s*2", "20", "a/9+1", "s*(1+(l>4))", ""};
        return spoilt(new StringBuilder(rules[random.nextInt(rules.length)]));
    }

    private static String day() {
        StringBuilder text = new StringBuilder();
        for (int i = random.nextInt(7); i >= 0; i--) {
            int cart = random.nextInt(Math.max(1, model.count(2)));
            String[] acts = {"o" + cart + random.nextInt(Math.max(1, model.count(1))), "t" + random.nextInt(9), "b" + cart, "c" + cart,
                "l" + cart + random.nextInt(10), "t" + random.nextInt(4)};
            text.append(acts[random.nextInt(acts.length)]).append(i == 0 ? "" : ";");
        }
        return spoilt(text);
    }

    private static String spoilt(StringBuilder text) {
        if (random.nextInt(5) == 0) {
            String signs = "prabch;0123456789-+*/()<>=sulotbc\u00ff\u0000";
            int where = random.nextInt(text.length() + 1);
            switch (random.nextInt(3)) {
                case 0:
                    text.insert(where, signs.charAt(random.nextInt(signs.length())));
                    break;
                case 1:
                    text.setLength(where);
                    break;
                default:
                    if (where < text.length()) {
                        text.setCharAt(where, signs.charAt(random.nextInt(signs.length())));
                    }
                    break;
            }
        }
        return text.length() > 80 ? text.substring(0, 80) : text.toString();
    }

    private static void step() {
        int kind = random.nextInt(100);
        if (kind < 28) {
            act();
        } else if (kind < 36) {
            texts();
        } else if (kind < 52) {
            things();
        } else if (kind < 62) {
            tables();
        } else if (kind < 76) {
            ways();
        } else if (kind < 86) {
            cartsToCome();
        } else if (kind < 93) {
            marks();
        } else {
            kept();
        }
    }

    private static void act() {
        int c = aCart();
        int r = aRoad();
        int p = aPlace();
        int q = aPlace();
        int n = near(0, random.nextInt(4) == 0 ? 99 : 6);
        int v = near(0, 9);
        switch (random.nextInt(12)) {
            case 0:
            case 1:
            case 2:
                int at = model.count(2) > c && c >= 0 ? model.cart(c, 0) : -1;
                int bits = at >= 0 ? model.place(at, 2) : 0;
                int road = bits != 0 && random.nextInt(5) != 0 ? Integer.numberOfTrailingZeros(bits) : r;
                same("out " + c + " " + road, () -> x.out(c, road), () -> model.out(c, road));
                break;
            case 3:
                same("round " + c, () -> x.round(c), () -> model.round(c));
                break;
            case 4:
                same("chain " + c, () -> x.chain(c, v % 3), () -> model.chain(c, v % 3));
                break;
            case 5:
                same("load " + c, () -> x.load(c, v), () -> model.load(c, v));
                break;
            case 6:
                same("storm " + r + " " + p + " " + q, () -> x.storm(r, p, q), () -> model.storm(r, p, q));
                break;
            case 7:
                same("undo", () -> x.undo(), () -> model.undo());
                break;
            case 8:
                String day = day();
                tell(day);
                same("day " + day, () -> x.day(), () -> model.day());
                break;
            default:
                same("pass " + n, () -> x.pass(n), () -> model.pass(n));
                break;
        }
    }

    private static void texts() {
        switch (random.nextInt(7)) {
            case 0:
                tell(flats(random.nextInt(8) == 0));
                same("flats", () -> x.flats(), () -> model.flats());
                break;
            case 1:
                tell(carts(random.nextInt(8) == 0));
                same("carts", () -> x.carts(), () -> model.carts());
                break;
            case 2:
            case 3:
                String tide = tide();
                tell(tide);
                same("tide " + tide, () -> x.tide(), () -> model.tide());
                break;
            case 4:
            case 5:
                String rule = rule();
                tell(rule);
                same("rule " + rule, () -> x.rule(), () -> model.rule());
                break;
            default:
                int v = random.nextInt();
                int n = near(0, model.count(12));
                same("sign", () -> x.sign(v), () -> model.sign(v));
                same("end " + n, () -> x.end(n) ? 1 : 0, () -> model.end(n) ? 1 : 0);
                break;
        }
    }

    private static void things() {
        int what = near(0, 7);
        int p = aPlace();
        int r = aRoad();
        int c = aCart();
        switch (random.nextInt(9)) {
            case 0:
                same("place", () -> x.place(p, what / 2), () -> model.place(p, what / 2));
                break;
            case 1:
            case 2:
                same("road", () -> x.road(r, what), () -> model.road(r, what));
                break;
            case 3:
            case 4:
                same("cart", () -> x.cart(c, what), () -> model.cart(c, what));
                break;
            case 5:
                int v = near(1, random.nextBoolean() ? 20 : 5);
                same("patience", () -> x.patience(v), () -> model.patience(v));
                break;
            case 6:
                int kind = near(0, 3);
                int n = near(0, 12);
                int f = random.nextInt(4) == 0 ? random.nextInt() : random.nextInt(30);
                int step = random.nextInt(4) == 0 ? random.nextInt() : random.nextInt(7) - 3;
                if (random.nextInt(4) == 0) {
                    same("sheet", () -> x.sheet(kind, n, f, step), () -> model.sheet(kind, n, f, step));
                }
                break;
            case 7:
                int i = near(0, model.row.size() - 1);
                same("row", () -> x.row(i), () -> model.row(i));
                break;
            default:
                int count = near(0, 12);
                same("count", () -> x.count(count), () -> model.count(count));
                break;
        }
    }

    private static void tables() {
        int r = aRoad();
        int n = near(0, 120);
        switch (random.nextInt(6)) {
            case 0:
                same("level", () -> x.level(n), () -> model.level(n));
                break;
            case 1:
                same("table", () -> x.table(r, n), () -> model.table(r, n));
                break;
            case 2:
                same("comes", () -> x.comes(r), () -> model.comes(r));
                break;
            case 3:
                same("ebb", () -> x.ebb(), () -> model.ebb());
                break;
            case 4:
                same("slack", () -> x.slack(), () -> model.slack());
                break;
            default:
                same("period", () -> x.period(), () -> model.period());
                break;
        }
    }

    private static void ways() {
        int p = aPlace();
        int q = aPlace();
        int n = near(0, random.nextBoolean() ? 120 : 20);
        int m = near(0, random.nextBoolean() ? 20 : 3);
        switch (random.nextInt(9)) {
            case 0:
            case 1:
                same("soonest", () -> x.soonest(p, q), () -> model.soonest(p, q));
                break;
            case 2:
            case 3:
                same("safe", () -> x.safe(p, q, m), () -> model.safe(p, q, m));
                break;
            case 4:
                same("latest", () -> x.latest(p, q, n), () -> model.latest(p, q, n));
                break;
            case 5:
                same("within", () -> x.within(p, n), () -> model.within(p, n));
                break;
            case 6:
                same("cutoff", () -> x.cutoff(p), () -> model.cutoff(p));
                break;
            case 7:
                int any = random.nextInt(1 << model.count(0)) & random.nextInt(256);
                int those = random.nextInt(10) == 0 ? near(0, 255) : Integer.bitCount(any) > 4 ? any & 0x55 : any;
                if (model.count(0) < 7 || Integer.bitCount(those) < 5 || Integer.bitCount(those) > 7) {
                    same("carrier " + those, () -> x.carrier(p, those), () -> model.carrier(p, those));
                }
                break;
            default:
                same("inns", () -> x.inns(n), () -> model.inns(n));
                break;
        }
    }

    private static void cartsToCome() {
        int c = aCart();
        int r = aRoad();
        int p = aPlace();
        int n = near(0, random.nextBoolean() ? 120 : 20);
        switch (random.nextInt(3)) {
            case 0:
                same("arrives " + c, () -> x.arrives(c), () -> model.arrives(c));
                break;
            case 1:
                int at = model.count(2) > c && c >= 0 ? model.cart(c, 0) : -1;
                int bits = at >= 0 ? model.place(at, 1) : 0;
                int road = bits != 0 && random.nextInt(5) != 0 ? Integer.numberOfTrailingZeros(bits) : r;
                same("best " + c + " " + road, () -> x.best(c, road), () -> model.best(c, road));
                break;
            default:
                same("could", () -> x.could(p, n), () -> model.could(p, n));
                break;
        }
    }

    private static void marks() {
        int t = near(0, 999);
        int v = near(0, random.nextInt(6) == 0 ? 180 : 30);
        int e = near(0, 20);
        switch (random.nextInt(12)) {
            case 0:
            case 1:
            case 2:
            case 3:
                same("mark", () -> x.mark(t, v), () -> model.mark(t, v));
                break;
            case 4:
                same("fits", () -> x.fits(e), () -> model.fits(e));
                break;
            case 5:
                same("read", () -> x.read(e, t), () -> model.read(e, t));
                break;
            case 6:
                if (random.nextInt(3) == 0) {
                    same("lookat", () -> x.lookat(e), () -> model.lookat(e));
                }
                break;
            case 7:
            case 8:
                same("wash", () -> x.wash(), () -> model.wash());
                break;
            default:
                same("count(9)", () -> x.count(9), () -> model.count(9));
                break;
        }
    }

    private static void kept() {
        int i = near(0, 1);
        int seed = random.nextInt();
        int n = near(1, 40);
        switch (random.nextInt(4)) {
            case 0:
            case 1:
                same("keep", () -> x.keep(i) ? 1 : 0, () -> model.keep(i) ? 1 : 0);
                break;
            case 2:
                same("again", () -> x.again(i) ? 1 : 0, () -> model.again(i) ? 1 : 0);
                break;
            default:
                same("years", () -> x.years(seed, n), () -> model.years(seed, n));
                break;
        }
    }
}
