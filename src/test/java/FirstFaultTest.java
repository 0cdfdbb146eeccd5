import java.util.Random;

/**
 * flats(), carts(), rule() and day(): a fault is told at the first sign behind which no text can go on.
 * Texts are made as the document tells them, not by what the class takes. No sign of a right one may be
 * refused, nor its end be told too early or late; and from each beginning of it every sign that is let
 * stand must lead to a right text. (tide() is left out: a number that is not so is told at its last digit.)
 */
public final class FirstFaultTest {
    private static final String[] KINDS = {"flats", "carts", "rule", "day"};
    private static final int[] MOST = {76, 40, 40, 60};
    private static final String[] LINES = {
        "p[0-9]{1,2}|r[a-h]{2}[1-9]-[0-9]{1,2}", "[a-h][0-9]\\*?", "", "o[0-9][0-9]{1,2}|t[0-9]{1,2}|[bc][0-9]|l[0-9]{2}"};
    /** How one can come to the end of a LINE, an EXPRESSION or an ACT from anywhere in it. */
    private static final String[][] ENDS = {
        {"", "5", "-5", "1-5", "a1-5", "b1-5", "ab1-5", "p5", "rab1-5"}, {"", "5", "a5"},
        {"", ")", "))", ")))", "))))", "s", "s)", "s))", "s)))", "s))))"}, {"", "5", "55", "t5"}};

    private static int kind;
    private static int places;
    private static int roads;
    private static Random random;

    public static void main(String[] args) {
        random = new Random(9);
        int atMost = 0;
        for (int i = 0; i < 400; i++) {
            kind = i % KINDS.length;
            places = 2 + random.nextInt(6);
            roads = random.nextInt(7);
            String text = someRight(i % 3 == 0 ? MOST[kind] : 1 + random.nextInt(MOST[kind]));
            atMost += text.length() == MOST[kind] ? 1 : 0;
            Check.due(told(text) + " is right", ask(text) >= 0, true);
            for (int n = 0; n < text.length(); n++) {
                String begin = text.substring(0, n);
                int answer = ask(begin);
                Check.due(told(begin) + " can go on", answer >= 0 || answer == -1 - n, true);
            }
            if (text.length() == MOST[kind]) {
                Check.due(told(text + "5") + " has a sign more than the most", ask(text + "5"), -1 - MOST[kind]);
            }
            whatMayStandBehind(text.substring(0, random.nextInt(Math.min(text.length(), MOST[kind] - 8))));
        }
        Check.due("texts of the most signs", atMost > 40, true);
        Check.finish();
    }

    private static void whatMayStandBehind(String begin) {
        for (char sign = 0; sign < 256; sign++) {
            String text = begin + sign;
            int answer = ask(text);
            if (answer < 0 && answer != -1 - text.length()) {
                Check.due(told(text) + ": the fault is told at its last sign", answer, -1 - begin.length());
                continue;
            }
            // A ; may stand even behind the last LINE for which there is room: the LINE behind it may not.
            boolean ends = sign == ';' && mostLines() == text.chars().filter(c -> c == ';').count();
            for (int i = 0; i < ENDS[kind].length && !ends; i++) {
                ends = ask(text + ENDS[kind][i]) >= 0;
            }
            Check.due(told(text) + ": a right text begins so", ends, true);
        }
    }

    private static String told(String text) {
        return KINDS[kind] + " with " + places + " places and " + roads + " roads, of \"" + text + "\"";
    }

    private static int ask(String text) {
        StringBuilder land = new StringBuilder("p1");
        for (int i = 1; i < places; i++) {
            land.append(";p1");
        }
        for (int i = 0; i < roads; i++) {
            land.append(";rab1-1");
        }
        RoadsWithTides x = Check.made(land.toString(), "12*20", "");
        Check.tell(x, text);
        int answer = kind == 0 ? x.flats() : kind == 1 ? x.carts() : kind == 2 ? x.rule() : x.day();
        Check.due(told(text) + ": it is taken if it is right", answer >= 0, isRight(text));
        return answer;
    }

    private static int mostLines() {
        return kind == 0 ? 8 - places + 12 - roads : kind == 1 ? 5 : 99;
    }

    /** By the whole text, as the document tells it. */
    private static boolean isRight(String text) {
        if (text.length() > MOST[kind]) {
            return false;
        }
        if (text.isEmpty()) {
            return true;
        }
        if (kind == 2) {
            return new RuleReader(text, 0, 0, 0, 0, 0, 0).fault < 0;
        }
        int newPlaces = places;
        int newRoads = roads;
        String[] lines = text.split(";", -1);
        for (String line : lines) {
            if (!line.matches(LINES[kind])) {
                return false;
            }
            newPlaces += kind == 0 && line.charAt(0) == 'p' ? 1 : 0;
            newRoads += kind == 0 && line.charAt(0) == 'r' ? 1 : 0;
            boolean ofPlaces = kind == 3 || line.charAt(0) == 'p'
                    || line.charAt(kind == 0 ? 1 : 0) < 'a' + newPlaces && (kind == 1 || line.charAt(2) < 'a' + newPlaces);
            if (!ofPlaces || kind == 0 && line.charAt(0) == 'r' && line.charAt(1) == line.charAt(2)) {
                return false;
            }
        }
        return newPlaces <= 8 && newRoads <= 12 && (kind != 1 || lines.length <= 5);
    }

    /** A right text of at most so many signs: of that many, where it comes out so in some tries. */
    private static String someRight(int most) {
        String best = "";
        for (int tries = 0; tries < 200 && best.length() < most; tries++) {
            String text = kind == 2 ? someExpression(4, most) : someLines(most);
            if (text.length() <= most && text.length() > best.length()) {
                best = text;
            }
        }
        return best.isEmpty() ? new String[] {"p5", "a5", "s", "t5"}[kind] : best;
    }

    private static String someLines(int most) {
        StringBuilder text = new StringBuilder();
        int newPlaces = places;
        int newRoads = roads;
        for (int lines = 0; lines < (kind == 1 ? 5 : 30); lines++) {
            String line = kind == 0 ? someFlat(newPlaces, newRoads) : kind == 1 ? someCart() : someAct();
            if (line.isEmpty() || text.length() + 1 + line.length() > most) {
                break;
            }
            text.append(lines == 0 ? "" : ";").append(line);
            newPlaces += line.charAt(0) == 'p' ? 1 : 0;
            newRoads += line.charAt(0) == 'r' ? 1 : 0;
        }
        if (kind == 1) {
            while (text.length() > 0 && text.length() < most && Character.isDigit(text.charAt(text.length() - 1))) {
                text.append('*');
            }
        }
        return text.toString();
    }

    private static String someFlat(int newPlaces, int newRoads) {
        String height = String.valueOf(random.nextInt(random.nextBoolean() ? 10 : 100));
        if (newPlaces < 8 && (newRoads == 12 || random.nextInt(3) == 0)) {
            return "p" + height;
        }
        if (newRoads == 12) {
            return "";
        }
        int one = random.nextInt(newPlaces);
        int other = (one + 1 + random.nextInt(newPlaces - 1)) % newPlaces;
        return "r" + (char) ('a' + one) + (char) ('a' + other) + (1 + random.nextInt(9)) + "-" + height;
    }

    private static String someCart() {
        return (char) ('a' + random.nextInt(places)) + "" + random.nextInt(10) + (random.nextBoolean() ? "*" : "");
    }

    private static String someAct() {
        String digit = String.valueOf(random.nextInt(10));
        String number = String.valueOf(random.nextInt(random.nextBoolean() ? 10 : 100));
        switch (random.nextInt(5)) {
            case 0:
                return "o" + digit + number;
            case 1:
                return "t" + number;
            case 2:
                return "b" + digit;
            case 3:
                return "c" + digit;
            default:
                return "l" + digit + random.nextInt(10);
        }
    }

    /** Things with operators between them; at most one of < > = behind the others' end. */
    private static String someExpression(int brackets, int most) {
        StringBuilder text = new StringBuilder(someThing(brackets, most));
        boolean isCompared = false;
        while (text.length() + 2 <= most && random.nextInt(8) != 0) {
            String signs = isCompared ? "+-*/" : "+-*/<>=";
            char sign = signs.charAt(random.nextInt(signs.length()));
            isCompared |= "<>=".indexOf(sign) >= 0;
            text.append(sign).append(someThing(brackets, most - text.length()));
        }
        return text.toString();
    }

    private static String someThing(int brackets, int most) {
        String ahead = "-".repeat(random.nextInt(8) == 0 ? random.nextInt(3) : 0);
        int which = random.nextInt(4);
        if (which == 0 && brackets > 0 && most > 4) {
            return ahead + "(" + someExpression(brackets - 1, most - 2) + ")";
        }
        return ahead + (which == 1 ? String.valueOf(random.nextInt(1000)) : String.valueOf("suhlra".charAt(random.nextInt(6))));
    }
}
