import java.util.NoSuchElementException;

/** What the tests share: counting wrong answers, and telling texts to an object. */
final class Check {
    private static int wrong = 0;
    private static int asked = 0;
    private static String sentence = "";

    private Check() {
    }

    interface Asking {
        int ask();
    }

    /** The sentence of the document that is tested from here on: it is told with what is wrong. */
    static void sentence(String words) {
        sentence = "[" + words + "] ";
    }

    static void due(String call, long got, long want) {
        asked++;
        if (got != want) {
            wrong++;
            System.out.println(sentence + call + " answered " + got + ", due is " + want);
        }
    }

    static void due(String call, boolean got, boolean want) {
        due(call, got ? 1 : 0, want ? 1 : 0);
    }

    static void noSuch(String call, Asking asking) {
        asked++;
        try {
            int got = asking.ask();
            wrong++;
            System.out.println(sentence + call + " answered " + got + ", due is NoSuchElementException");
        } catch (NoSuchElementException e) {
            // as it is due
        }
    }

    /** The ROW, whole. */
    static void row(String call, RoadsWithTides x, int... want) {
        due(call + ": numbers of the ROW", x.count(11), want.length);
        for (int i = 0; i < want.length && i < x.count(11); i++) {
            due(call + ": row(" + i + ")", x.row(i), want[i]);
        }
        noSuch(call + ": row behind the last", () -> x.row(want.length));
    }

    static int[] rowOf(RoadsWithTides x) {
        int[] row = new int[x.count(11)];
        for (int i = 0; i < row.length; i++) {
            row[i] = x.row(i);
        }
        return row;
    }

    /** THE TEXT becomes this one. */
    static void tell(RoadsWithTides x, String text) {
        x.end(0);
        for (int i = 0; i < text.length(); i += 4) {
            int v = 0;
            for (int k = 0; k < 4; k++) {
                v = v << 8 | (i + k < text.length() ? text.charAt(i + k) & 255 : 0);
            }
            x.sign(v);
        }
        x.end(text.length());
        if (x.count(12) != text.length()) {
            throw new IllegalStateException("a test tells too long a text");
        }
    }

    static int flats(RoadsWithTides x, String text) {
        tell(x, text);
        return x.flats();
    }

    static int tide(RoadsWithTides x, String text) {
        tell(x, text);
        return x.tide();
    }

    static int carts(RoadsWithTides x, String text) {
        tell(x, text);
        return x.carts();
    }

    static int rule(RoadsWithTides x, String text) {
        tell(x, text);
        return x.rule();
    }

    static int day(RoadsWithTides x, String text) {
        tell(x, text);
        return x.day();
    }

    static RoadsWithTides made(String flats, String tide, String carts) {
        RoadsWithTides x = new RoadsWithTides();
        if (flats(x, flats) < 0 || tide(x, tide) < 0 || carts(x, carts) < 0) {
            throw new IllegalStateException("a test tells a wrong text");
        }
        return x;
    }

    /** All that can be seen of an object but the ROW, as a text. */
    static String seen(RoadsWithTides x) {
        StringBuilder all = new StringBuilder();
        for (int what = 0; what <= 12; what++) {
            if (what != 11) {
                all.append(x.count(what)).append(' ');
            }
        }
        for (int p = 0; p < x.count(0); p++) {
            for (int what = 0; what < 4; what++) {
                all.append(x.place(p, what)).append(' ');
            }
        }
        for (int r = 0; r < x.count(1); r++) {
            for (int what = 0; what < 8; what++) {
                all.append(x.road(r, what)).append(' ');
            }
        }
        for (int c = 0; c < x.count(2); c++) {
            for (int what = 0; what < 8; what++) {
                all.append(x.cart(c, what)).append(' ');
            }
        }
        return all.toString();
    }

    /** All that can be seen but the ROW and how many can be undone. */
    static String stateOf(RoadsWithTides x) {
        String[] seen = seen(x).split(" ");
        seen[10] = "";
        return String.join(" ", seen);
    }

    static void same(String what, String got, String want) {
        asked++;
        if (!got.equals(want)) {
            wrong++;
            System.out.println(sentence + what + ": " + got + ", due is " + want);
        }
    }

    static void finish() {
        System.out.println(asked + " asked, " + wrong + " wrong");
        if (wrong != 0 || asked == 0) {
            System.exit(1);
        }
    }
}
