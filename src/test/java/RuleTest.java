import java.util.Random;

/** Promise 7 and the TURNS of 9: rules against a reader of their own, right ones and wrong ones. */
public final class RuleTest {
    private static final String SIGNS = "suhlra0123456789()+-*/<>=--((";

    private static String text;
    private static int at;
    private static int fault;
    private static int[] values;

    public static void main(String[] args) {
        told();
        Random random = new Random(7);
        for (int i = 0; i < 3000; i++) {
            String made = thing(random, 0, 3);
            compare(made.length() > 44 ? made.substring(0, 44) : made, random);
            compare(spoilt(made, random), random);
        }
        Check.finish();
    }

    private static void told() {
        RoadsWithTides x = Check.made("p10;p50;rab2-30;rab3-12", "12*20", "a5;b9");
        String[] rules = {"", "s", "u", "h", "l", "r", "a", "s-1-1+5", "9/2*2", "0-7/2+9", "-7/2+9", "--5", "5/0+3", "u/0",
            "2<3", "(2<3)*7+1", "2+3*4", "2*3+4", "s=2", "(s=2)*6", "3>2+9", "999*999*999*999", "100", "0", "2--3", "2*-3+9",
            "-(s-9)", "l+1", "u<0", "(u<0)*9+1", "r*5+1", "(a=10)*5+(a=50)*8"};
        int[] first = {4, 2, 20, 20, 1, 1, 10, 5, 8, 6, 6, 5, 3, 1,
            1, 8, 14, 10, 1, 6, 1, 20, 20, 1, 5, 3,
            7, 1, 1, 1, 1, 5};
        int[] back = {2, 2, 1, 20, 1, 1, 20, 5, 8, 6, 6, 5, 3, 1,
            1, 8, 14, 10, 1, 6, 1, 20, 20, 1, 5, 3,
            7, 1, 1, 10, 1, 8};
        for (int i = 0; i < rules.length; i++) {
            Check.due("rule " + rules[i], Check.rule(x, rules[i]), 0);
            Check.due(rules[i] + " there", x.road(0, 6), i == 21 ? Math.max(1, Math.min(20, 999 * 999 * 999 * 999)) : first[i]);
            Check.due(rules[i] + " back", x.road(0, 7), i == 21 ? Math.max(1, Math.min(20, 999 * 999 * 999 * 999)) : back[i]);
        }
        Check.rule(x, "r*5+1");
        Check.due("r of road 1", x.road(1, 6), 6);
        Check.rule(x, "l+1");
        x.pass(6);
        Check.due("LOAD of the cart", x.out(0, 1), 6);
        Check.due("LOAD of the other cart", x.out(1, 1), 10);
    }

    private static String thing(Random random, int depth, int more) {
        int kind = random.nextInt(10);
        if (kind < 3 || more == 0 && kind < 6) {
            return String.valueOf("suhlra".charAt(random.nextInt(6)));
        }
        if (kind < 5 || more == 0) {
            return String.valueOf(random.nextInt(random.nextInt(3) == 0 ? 1000 : 30));
        }
        if (kind == 5) {
            return "-" + thing(random, depth, more - 1);
        }
        String left = thing(random, depth, more - 1);
        String joined = left + "+-*/+-*/<>=".charAt(random.nextInt(11)) + thing(random, depth, more - 1);
        return depth < 5 && random.nextBoolean() ? "(" + joined + ")" : joined;
    }

    private static String spoilt(String made, Random random) {
        StringBuilder spoilt = new StringBuilder(made);
        for (int i = random.nextInt(2); i < 2; i++) {
            int where = random.nextInt(spoilt.length() + 1);
            spoilt.insert(where, SIGNS.charAt(random.nextInt(SIGNS.length())));
        }
        if (random.nextInt(3) == 0) {
            spoilt.deleteCharAt(random.nextInt(spoilt.length()));
        }
        return spoilt.length() > 60 ? spoilt.substring(0, 60) : spoilt.toString();
    }

    private static void compare(String rule, Random random) {
        int low = random.nextInt(100);
        int high = random.nextInt(100);
        int steps = 1 + random.nextInt(9);
        int height = random.nextInt(100);
        RoadsWithTides x = Check.made("p" + low + ";p" + high + ";rab1-1;rab" + steps + "-" + height, "12*20", "");
        text = rule.length() > 40 ? rule.substring(0, 40) : rule;
        int want = 0;
        values = new int[] {steps, high - low, height, 0, 1, low};
        int there = Math.max(1, Math.min(20, whole()));
        if (rule.isEmpty()) {
            return;
        }
        if (fault >= 0) {
            want = -1 - fault;
        } else if (rule.length() > 40) {
            want = -41;
        }
        Check.due("rule " + rule, Check.rule(x, rule), want);
        if (want == 0) {
            values = new int[] {steps, low - high, height, 0, 1, high};
            int back = Math.max(1, Math.min(20, whole()));
            Check.due(rule + " there", x.road(1, 6), there);
            Check.due(rule + " back", x.road(1, 7), back);
        }
    }

    // A reader by descent; at the first fault it notes where and everything behind it is without meaning.

    private static int whole() {
        at = 0;
        fault = -1;
        int value = expression(0);
        if (at < text.length()) {
            failed();
        }
        return value;
    }

    private static void failed() {
        if (fault < 0) {
            fault = at;
        }
        at = text.length();
    }

    private static char peek() {
        return at < text.length() ? text.charAt(at) : 0;
    }

    private static int expression(int depth) {
        int left = sum(depth);
        char sign = peek();
        if (sign != '<' && sign != '>' && sign != '=') {
            return left;
        }
        at++;
        int right = sum(depth);
        return (sign == '<' ? left < right : sign == '>' ? left > right : left == right) ? 1 : 0;
    }

    private static int sum(int depth) {
        int value = product(depth);
        while (peek() == '+' || peek() == '-') {
            char sign = text.charAt(at++);
            int right = product(depth);
            value = sign == '+' ? value + right : value - right;
        }
        return value;
    }

    private static int product(int depth) {
        int value = negated(depth);
        while (peek() == '*' || peek() == '/') {
            char sign = text.charAt(at++);
            int right = negated(depth);
            value = sign == '*' ? value * right : right == 0 ? 0 : value / right;
        }
        return value;
    }

    private static int negated(int depth) {
        if (peek() == '-') {
            at++;
            return -negated(depth);
        }
        if (peek() == '(' && depth < 4) {
            at++;
            int value = expression(depth + 1);
            if (peek() == ')') {
                at++;
            } else {
                failed();
            }
            return value;
        }
        if (peek() >= '0' && peek() <= '9') {
            int value = 0;
            for (int i = 0; i < 3 && peek() >= '0' && peek() <= '9'; i++) {
                value = 10 * value + text.charAt(at++) - '0';
            }
            return value;
        }
        int letter = "suhlra".indexOf(peek());
        if (letter < 0) {
            failed();
            return 0;
        }
        at++;
        return values[letter];
    }
}
