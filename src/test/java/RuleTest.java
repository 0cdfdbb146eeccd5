import java.util.Random;

/** Promise 7 and the TURNS of 9: rules against a reader of their own, right ones and wrong ones. */
public final class RuleTest {
    private static final String SIGNS = "suhlra0123456789()+-*/<>=--((";

    public static void main(String[] args) {
        told();
        Random random = new Random(7);
        for (int i = 0; i < 3000; i++) {
            String made = thing(random, 0, 3);
            compare(made.length() > 44 ? made.substring(0, 44) : made, random);
            compare(spoilt(made, random), random);
        }
        Check.finish();
    }

    private static void told() {
        RoadsWithTides x = Check.made("p10;p50;rab2-30;rab3-12", "12*20", "a5;b9");
        String[] rules = {"", "s", "u", "h", "l", "r", "a", "s-1-1+5", "9/2*2", "0-7/2+9", "-7/2+9", "--5", "5/0+3", "u/0",
            "2<3", "(2<3)*7+1", "2+3*4", "2*3+4", "s=2", "(s=2)*6", "3>2+9", "999*999*999*999", "100", "0", "2--3", "2*-3+9",
            "-(s-9)", "l+1", "u<0", "(u<0)*9+1", "r*5+1", "(a=10)*5+(a=50)*8"};
        int[] first = {4, 2, 20, 20, 1, 1, 10, 5, 8, 6, 6, 5, 3, 1,
            1, 8, 14, 10, 1, 6, 1, 20, 20, 1, 5, 3,
            7, 1, 1, 1, 1, 5};
        int[] back = {2, 2, 1, 20, 1, 1, 20, 5, 8, 6, 6, 5, 3, 1,
            1, 8, 14, 10, 1, 6, 1, 20, 20, 1, 5, 3,
            7, 1, 1, 10, 1, 8};
        for (int i = 0; i < rules.length; i++) {
            Check.due("rule " + rules[i], Check.rule(x, rules[i]), 0);
            Check.due(rules[i] + " there", x.road(0, 6), i == 21 ? Math.max(1, Math.min(20, 999 * 999 * 999 * 999)) : first[i]);
            Check.due(rules[i] + " back", x.road(0, 7), i == 21 ? Math.max(1, Math.min(20, 999 * 999 * 999 * 999)) : back[i]);
        }
        Check.rule(x, "r*5+1");
        Check.due("r of road 1", x.road(1, 6), 6);
        Check.rule(x, "l+1");
        x.pass(6);
        Check.due("LOAD of the cart", x.out(0, 1), 6);
        Check.due("LOAD of the other cart", x.out(1, 1), 10);
    }

    private static String thing(Random random, int depth, int more) {
        int kind = random.nextInt(10);
        if (kind < 3 || more == 0 && kind < 6) {
            return String.valueOf("suhlra".charAt(random.nextInt(6)));
        }
        if (kind < 5 || more == 0) {
            return String.valueOf(random.nextInt(random.nextInt(3) == 0 ? 1000 : 30));
        }
        if (kind == 5) {
            return "-" + thing(random, depth, more - 1);
        }
        String left = thing(random, depth, more - 1);
        String joined = left + "+-*/+-*/<>=".charAt(random.nextInt(11)) + thing(random, depth, more - 1);
        return depth < 5 && random.nextBoolean() ? "(" + joined + ")" : joined;
    }

    private static String spoilt(String made, Random random) {
        StringBuilder spoilt = new StringBuilder(made);
        for (int i = random.nextInt(2); i < 2; i++) {
            int where = random.nextInt(spoilt.length() + 1);
            spoilt.insert(where, SIGNS.charAt(random.nextInt(SIGNS.length())));
        }
        if (random.nextInt(3) == 0) {
            spoilt.deleteCharAt(random.nextInt(spoilt.length()));
        }
        return spoilt.length() > 60 ? spoilt.substring(0, 60) : spoilt.toString();
    }

    private static void compare(String rule, Random random) {
        int low = random.nextInt(100);
        int high = random.nextInt(100);
        int steps = 1 + random.nextInt(9);
        int height = random.nextInt(100);
        RoadsWithTides x = Check.made("p" + low + ";p" + high + ";rab1-1;rab" + steps + "-" + height, "12*20", "");
        if (rule.isEmpty()) {
            return;
        }
        String text = rule.length() > 40 ? rule.substring(0, 40) : rule;
        int want = 0;
        RuleReader up = new RuleReader(text, steps, high - low, height, 0, 1, low);
        int there = Math.max(1, Math.min(20, up.value));
        if (up.fault >= 0) {
            want = -1 - up.fault;
        } else if (rule.length() > 40) {
            want = -41;
        }
        Check.due("rule " + rule, Check.rule(x, rule), want);
        if (want == 0) {
            RuleReader down = new RuleReader(text, steps, low - high, height, 0, 1, high);
            int back = Math.max(1, Math.min(20, down.value));
            Check.due(rule + " there", x.road(1, 6), there);
            Check.due(rule + " back", x.road(1, 7), back);
        }
    }
}
