/** THE RULE read by descent, for tests: where it is wrong first, and what it comes to. */
final class RuleReader {
    private final String text;
    private final int[] values;
    private int at = 0;
    /** The first sign that can't stand where it is, or -1; behind it values are without meaning. */
    int fault = -1;
    int value = 0;

    /** Values of s, u, h, l, r, a; a text of at most 40 signs, not empty. */
    RuleReader(String text, int... values) {
        this.text = text;
        this.values = values;
        value = expression(0);
        if (at < text.length()) {
            failed();
        }
    }

    private void failed() {
        if (fault < 0) {
            fault = at;
        }
        at = text.length();
    }

    private char peek() {
        return at < text.length() ? text.charAt(at) : 0;
    }

    private boolean isNext(String signs) {
        return at < text.length() && signs.indexOf(text.charAt(at)) >= 0;
    }

    private int expression(int depth) {
        int left = sum(depth);
        if (!isNext("<>=")) {
            return left;
        }
        char sign = text.charAt(at++);
        int right = sum(depth);
        return (sign == '<' ? left < right : sign == '>' ? left > right : left == right) ? 1 : 0;
    }

    private int sum(int depth) {
        int sum = product(depth);
        while (isNext("+-")) {
            char sign = text.charAt(at++);
            int right = product(depth);
            sum = sign == '+' ? sum + right : sum - right;
        }
        return sum;
    }

    private int product(int depth) {
        int product = negated(depth);
        while (isNext("*/")) {
            char sign = text.charAt(at++);
            int right = negated(depth);
            product = sign == '*' ? product * right : right == 0 ? 0 : product / right;
        }
        return product;
    }

    private int negated(int depth) {
        if (isNext("-")) {
            at++;
            return -negated(depth);
        }
        if (isNext("(") && depth < 4) {
            at++;
            int inside = expression(depth + 1);
            if (isNext(")")) {
                at++;
            } else {
                failed();
            }
            return inside;
        }
        if (isNext("0123456789")) {
            int number = 0;
            for (int i = 0; i < 3 && isNext("0123456789"); i++) {
                number = 10 * number + text.charAt(at++) - '0';
            }
            return number;
        }
        int letter = at < text.length() ? "suhlra".indexOf(peek()) : -1;
        if (letter < 0) {
            failed();
            return 0;
        }
        at++;
        return values[letter];
    }
}
