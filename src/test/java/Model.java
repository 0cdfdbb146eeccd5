import java.util.ArrayDeque;
import java.util.ArrayList;
import java.util.Arrays;
import java.util.Collections;
import java.util.Deque;
import java.util.List;
import java.util.NoSuchElementException;
import java.util.TreeSet;
import java.util.regex.Matcher;
import java.util.regex.Pattern;

/** The document told a second time, as plainly as can be and without care for time: for comparing answers. */
final class Model {
    private static final int NEVER = 100000;

    /** NOW, CARTS, between which PLACES ROADS are. */
    private static final class State {
        int now = 0;
        List<Cart> carts = new ArrayList<>();
        List<int[]> ends = new ArrayList<>();

        State copy() {
            State copy = new State();
            copy.now = now;
            for (Cart cart : carts) {
                copy.carts.add(cart.copy());
            }
            for (int[] one : ends) {
                copy.ends.add(one.clone());
            }
            return copy;
        }
    }

    private static final class Cart {
        int place;
        int road = -1;
        int to = -1;
        int left = 0;
        int load;
        boolean chained;
        int cut = 0;
        boolean wrecked = false;

        Cart copy() {
            Cart copy = new Cart();
            copy.place = place;
            copy.road = road;
            copy.to = to;
            copy.left = left;
            copy.load = load;
            copy.chained = chained;
            copy.cut = cut;
            copy.wrecked = wrecked;
            return copy;
        }
    }

    final List<Integer> row = new ArrayList<>();
    private final StringBuilder text = new StringBuilder();
    private final List<Integer> heights = new ArrayList<>();
    private final List<int[]> roads = new ArrayList<>();
    private final List<int[]> rounds = new ArrayList<>(List.of(new int[] {12, 20, 0}));
    private final List<int[]> marks = new ArrayList<>();
    private final Deque<State> undone = new ArrayDeque<>();
    private final State[] kept = new State[2];
    private State state = new State();
    private String rule = "";
    private int patience = 6;
    private int came;
    private int cameBits;
    private int wreckedBits;

    private int tell(int answer, Integer... numbers) {
        row.clear();
        row.addAll(Arrays.asList(numbers));
        return answer;
    }

    private String read() {
        String told = text.toString();
        text.setLength(0);
        return told;
    }

    int sign(int v) {
        if (text.length() > 76) {
            return -1;
        }
        for (int shift = 24; shift >= 0; shift -= 8) {
            text.append((char) (v >> shift & 255));
        }
        return text.length();
    }

    boolean end(int n) {
        if (n < 0 || n > text.length()) {
            return false;
        }
        text.setLength(n);
        return true;
    }

    // Texts: a sign can't stand somewhere if what is ahead of it and it could neither go on nor end.

    private interface Line {
        /** The form of the next LINE: of so many PLACES and ROADS, so many LINES ahead of it. */
        String form(int places, int roads, int ahead);
    }

    private boolean canStand(String told, Line line, boolean whole) {
        int p = heights.size();
        int r = roads.size();
        String[] lines = told.split(";", -1);
        for (int i = 0; i < lines.length; i++) {
            Matcher matcher = Pattern.compile(line.form(p, r, i)).matcher(lines[i]);
            boolean matches = matcher.matches();
            if (!matches && (whole || i < lines.length - 1 || !matcher.hitEnd())) {
                return false;
            }
            p += lines[i].startsWith("p") ? 1 : 0;
            r += lines[i].startsWith("r") ? 1 : 0;
        }
        return true;
    }

    /** How many LINES, or where the text is wrong. */
    private int lines(String told, int most, Line line) {
        if (told.isEmpty()) {
            return 0;
        }
        if (told.length() <= most && canStand(told, line, true)) {
            return told.split(";", -1).length;
        }
        int p = 0;
        while (p < told.length() && p < most && canStand(told.substring(0, p + 1), line, false)) {
            p++;
        }
        return -1 - p;
    }

    private static String letters(int places) {
        return places == 0 ? "[\u0100]" : "[a-" + (char) ('a' + places - 1) + "]";
    }

    int flats() {
        String told = read();
        int lines = lines(told, 76, (p, r, ahead) -> (p < 8 ? "p[0-9][0-9]?" : "\u0100") + "|"
                + (r < 12 ? "r(" + letters(p) + ")(?!\\1)" + letters(p) + "[1-9]-[0-9][0-9]?" : "\u0100"));
        if (lines > 0) {
            for (String line : told.split(";")) {
                if (line.charAt(0) == 'p') {
                    heights.add(Integer.parseInt(line.substring(1)));
                } else {
                    roads.add(new int[] {line.charAt(3) - '0', Integer.parseInt(line.substring(5))});
                    state.ends.add(new int[] {line.charAt(1) - 'a', line.charAt(2) - 'a'});
                }
            }
            forget();
        }
        return lines;
    }

    private void forget() {
        undone.clear();
        kept[0] = null;
        kept[1] = null;
    }

    int carts() {
        String told = read();
        int room = 5 - state.carts.size();
        int lines = lines(told, 40, (p, r, ahead) -> ahead < room ? letters(p) + "[0-9]\\*?" : "\u0100");
        if (lines > 0) {
            for (String line : told.split(";")) {
                Cart cart = new Cart();
                cart.place = line.charAt(0) - 'a';
                cart.load = line.charAt(1) - '0';
                cart.chained = line.length() == 3;
                state.carts.add(cart);
            }
            forget();
        }
        return lines;
    }

    int tide() {
        String told = read();
        List<int[]> draft = new ArrayList<>();
        int at = 0;
        for (int i = 0; i < 3; i++) {
            int[] round = new int[3];
            String[] ahead = {"", "*", "/"};
            int[] least = {2, 0, 0};
            int[] most = {60, 60, 59};
            for (int part = 0; part < 3; part++) {
                if (!told.startsWith(ahead[part], at)) {
                    if (part == 2) {
                        break;
                    }
                    return -1 - at;
                }
                at += ahead[part].length();
                int digits = 0;
                while (digits < 2 && at < told.length() && "0123456789".indexOf(told.charAt(at)) >= 0) {
                    round[part] = 10 * round[part] + told.charAt(at++) - '0';
                    digits++;
                }
                if (digits == 0) {
                    return -1 - at;
                }
                if (round[part] < least[part] || round[part] > most[part]) {
                    return -1 - (at - 1);
                }
            }
            draft.add(round);
            if (at == told.length()) {
                rounds.clear();
                rounds.addAll(draft);
                return draft.size();
            }
            if (i == 2 || told.charAt(at) != '+') {
                return -1 - at;
            }
            at++;
        }
        return -1 - at;
    }

    int rule() {
        String told = read();
        if (told.isEmpty()) {
            rule = "";
            return 0;
        }
        RuleReader reader = new RuleReader(told.length() > 40 ? told.substring(0, 40) : told, 1, 1, 1, 1, 1, 1);
        if (reader.fault >= 0 || told.length() > 40) {
            return -1 - (reader.fault >= 0 ? reader.fault : 40);
        }
        rule = told;
        return 0;
    }

    private int levelAt(int t) {
        int level = 0;
        for (int[] round : rounds) {
            level += of(t, round[0], round[1], round[2]);
        }
        return level;
    }

    private static int of(int t, int p, int h, int s) {
        int x = (t + s) % p;
        return 2 * x <= p ? h * 2 * x / p : h * 2 * (p - x) / p;
    }

    private boolean isThere(int road, int t) {
        return levelAt(t) >= roads.get(road)[1];
    }

    private int takes(int road, int from, int to, int load) {
        int u = heights.get(to) - heights.get(from);
        String told = rule.isEmpty() ? "s+(u>0)*u/20" : rule;
        int value = new RuleReader(told, roads.get(road)[0], u, roads.get(road)[1], load, road, heights.get(from)).value;
        return value < 1 ? 1 : value > 20 ? 20 : value;
    }

    private boolean isPlace(int place) {
        return place >= 0 && place < heights.size();
    }

    private boolean isRoad(int road) {
        return road >= 0 && road < roads.size();
    }

    private boolean isCart(int cart) {
        return cart >= 0 && cart < state.carts.size();
    }

    private int roadsNow(int t) {
        int bits = 0;
        for (int r = 0; r < roads.size(); r++) {
            bits |= isThere(r, t) ? 1 << r : 0;
        }
        return bits;
    }

    private int other(int road, int place) {
        int[] ends = state.ends.get(road);
        return ends[0] == place ? ends[1] : ends[1] == place ? ends[0] : -1;
    }

    int place(int place, int what) {
        if (!isPlace(place) || what < 0 || what > 3) {
            throw new NoSuchElementException();
        }
        int bits = 0;
        for (int r = 0; r < roads.size(); r++) {
            bits |= other(r, place) >= 0 ? 1 << r : 0;
        }
        int carts = 0;
        for (int c = 0; c < state.carts.size(); c++) {
            carts |= state.carts.get(c).place == place ? 1 << c : 0;
        }
        return what == 0 ? heights.get(place) : what == 1 ? bits : what == 2 ? bits & roadsNow(state.now) : carts;
    }

    int road(int road, int what) {
        if (!isRoad(road) || what < 0 || what > 7) {
            throw new NoSuchElementException();
        }
        int[] ends = state.ends.get(road);
        int carts = 0;
        for (int c = 0; c < state.carts.size(); c++) {
            carts |= state.carts.get(c).road == road ? 1 << c : 0;
        }
        int[] all = {ends[0], ends[1], roads.get(road)[0], roads.get(road)[1], isThere(road, state.now) ? 1 : 0, carts,
            takes(road, ends[0], ends[1], 0), takes(road, ends[1], ends[0], 0)};
        return all[what];
    }

    int cart(int cart, int what) {
        if (!isCart(cart) || what < 0 || what > 7) {
            throw new NoSuchElementException();
        }
        Cart one = state.carts.get(cart);
        int[] all = {one.place, one.road, one.to, one.left, one.load, one.chained ? 1 : 0, one.cut, one.wrecked ? 1 : 0};
        return all[what];
    }

    int patience(int v) {
        if (v < 1 || v > 20) {
            return -1;
        }
        int was = patience;
        patience = v;
        return was;
    }

    int sheet(int kind, int n, int f, int step) {
        if (kind < 0 || kind > 3 || n > 12) {
            return -1;
        }
        if (kind < 3 && n < 0) {
            return -2;
        }
        int sum = 0;
        for (int r = 0; r < roads.size(); r++) {
            int entry = f + r * step;
            entry = kind == 0 ? (byte) entry : kind == 1 ? (short) entry : entry;
            entry = kind == 3 || r >= n ? 0 : Math.max(0, Math.min(99, entry));
            roads.get(r)[1] = entry;
            sum += entry;
        }
        return kind == 3 ? -3 : sum;
    }

    private int done(State before, int answer) {
        if (answer >= 0) {
            undone.addLast(before);
            if (undone.size() > 12) {
                undone.removeFirst();
            }
        }
        return answer;
    }

    int out(int cart, int road) {
        return done(state.copy(), setOut(cart, road));
    }

    private int setOut(int cart, int road) {
        if (!isCart(cart) || !isRoad(road)) {
            return -1;
        }
        Cart one = state.carts.get(cart);
        if (one.road >= 0) {
            return -2;
        }
        int to = other(road, one.place);
        if (to < 0) {
            return -3;
        }
        if (!isThere(road, state.now)) {
            return -4;
        }
        one.left = takes(road, one.place, to, one.load);
        one.road = road;
        one.to = to;
        one.place = -1;
        return one.left;
    }

    int round(int cart) {
        return done(state.copy(), turnRound(cart));
    }

    private int turnRound(int cart) {
        if (!isCart(cart) || state.carts.get(cart).road < 0 || state.carts.get(cart).wrecked) {
            return -1;
        }
        Cart one = state.carts.get(cart);
        int back = other(one.road, one.to);
        one.left = Math.max(1, takes(one.road, one.to, back, one.load) - one.left);
        one.to = back;
        return one.left;
    }

    int chain(int cart, int v) {
        return done(state.copy(), putChain(cart, v));
    }

    private int putChain(int cart, int v) {
        if (!isCart(cart) || v < 0 || v > 1 || state.carts.get(cart).wrecked) {
            return -1;
        }
        int was = state.carts.get(cart).chained ? 1 : 0;
        state.carts.get(cart).chained = v == 1;
        return was;
    }

    int load(int cart, int v) {
        return done(state.copy(), putLoad(cart, v));
    }

    private int putLoad(int cart, int v) {
        if (!isCart(cart) || v < 0 || v > 9 || state.carts.get(cart).road >= 0) {
            return -1;
        }
        int was = state.carts.get(cart).load;
        state.carts.get(cart).load = v;
        return was;
    }

    int storm(int road, int one, int other) {
        return done(state.copy(), throwRoad(road, one, other));
    }

    private int throwRoad(int road, int one, int other) {
        if (!isRoad(road) || !isPlace(one) || !isPlace(other) || one == other) {
            return -1;
        }
        for (Cart cart : state.carts) {
            if (cart.road == road) {
                return -2;
            }
        }
        int[] was = state.ends.get(road);
        state.ends.set(road, new int[] {one, other});
        return 8 * was[0] + was[1];
    }

    private void turn() {
        for (int c = 0; c < state.carts.size(); c++) {
            Cart cart = state.carts.get(c);
            if (cart.road < 0 || cart.wrecked) {
                continue;
            }
            if (isThere(cart.road, state.now)) {
                cart.cut = 0;
                cart.left--;
                if (cart.left == 0) {
                    cart.place = cart.to;
                    cart.road = -1;
                    cart.to = -1;
                    came++;
                    cameBits |= 1 << c;
                }
            } else {
                cart.cut++;
                if (!cart.chained && cart.cut >= patience) {
                    cart.wrecked = true;
                    wreckedBits |= 1 << c;
                }
            }
        }
        state.now++;
    }

    private int goBy(int n) {
        came = 0;
        cameBits = 0;
        wreckedBits = 0;
        for (int i = 0; i < n; i++) {
            turn();
        }
        return came;
    }

    int pass(int n) {
        if (n < 0 || n > 99) {
            return -1;
        }
        State before = state.copy();
        int answer = goBy(n);
        if (n > 0) {
            done(before, 0);
        }
        int cut = 0;
        for (int c = 0; c < state.carts.size(); c++) {
            cut |= state.carts.get(c).cut > 0 ? 1 << c : 0;
        }
        return tell(answer, cameBits, cut, wreckedBits);
    }

    int day() {
        String told = read();
        int lines = lines(told, 60, (p, r, ahead) -> "o[0-9][0-9][0-9]?|t[0-9][0-9]?|[bc][0-9]|l[0-9][0-9]");
        if (lines < 0) {
            return lines;
        }
        State before = state.copy();
        int acts = 0;
        int all = 0;
        while (acts < lines) {
            String act = told.split(";")[acts];
            int one = act.charAt(1) - '0';
            int rest = act.length() > 2 ? Integer.parseInt(act.substring(2)) : 0;
            int answer;
            switch (act.charAt(0)) {
                case 'o':
                    answer = setOut(one, rest);
                    break;
                case 't':
                    answer = goBy(Integer.parseInt(act.substring(1)));
                    all += answer;
                    break;
                case 'b':
                    answer = turnRound(one);
                    break;
                case 'c':
                    answer = putChain(one, isCart(one) && state.carts.get(one).chained ? 0 : 1);
                    break;
                default:
                    answer = putLoad(one, rest);
                    break;
            }
            if (answer < 0) {
                break;
            }
            acts++;
        }
        if (acts > 0) {
            done(before, 0);
        }
        return tell(acts, acts < lines ? 1 : 0, all);
    }

    int undo() {
        if (undone.isEmpty()) {
            return -1;
        }
        state = undone.removeLast();
        return undone.size();
    }

    int level(int n) {
        if (n < 0 || n > 120) {
            return -1;
        }
        int level = levelAt(state.now + n);
        int behind = levelAt(state.now + n + 1);
        return tell(level, behind > level ? 1 : behind < level ? -1 : 0);
    }

    private int stays(int road, int t, int most) {
        int many = 0;
        while (many < most && isThere(road, t + many)) {
            many++;
        }
        return many;
    }

    int table(int road, int n) {
        if (!isRoad(road) || n < 1 || n > 120) {
            return -1;
        }
        List<Integer> there = new ArrayList<>();
        int most = 0;
        int from = -1;
        for (int t = 0; t < n; t++) {
            if (isThere(road, state.now + t)) {
                there.add(t);
            }
            int run = stays(road, state.now + t, n - t);
            if (run > most) {
                most = run;
                from = t;
            }
        }
        boolean none = there.isEmpty();
        return tell(there.size(), none ? -1 : there.get(0), none ? -1 : there.get(there.size() - 1), most, from);
    }

    int comes(int road) {
        if (!isRoad(road)) {
            return -1;
        }
        for (int t = 0; t <= 120; t++) {
            if (isThere(road, state.now + t)) {
                return tell(t, stays(road, state.now + t, 120));
            }
        }
        return -2;
    }

    int ebb() {
        List<Integer> levels = new ArrayList<>();
        for (int t = 0; t <= 120; t++) {
            levels.add(levelAt(state.now + t));
        }
        int high = Collections.max(levels);
        int low = Collections.min(levels);
        return tell(high, levels.indexOf(high), low, levels.indexOf(low));
    }

    int slack() {
        List<Integer> still = new ArrayList<>();
        for (int t = 0; t < 120; t++) {
            if (levelAt(state.now + t) == levelAt(state.now + t + 1)) {
                still.add(t);
            }
        }
        return still.isEmpty() ? tell(0, -1, 0)
                : tell(still.size(), still.get(0), Integer.bitCount(roadsNow(state.now + still.get(0))));
    }

    int period() {
        for (int n = 1; n <= 120; n++) {
            boolean all = true;
            for (int[] round : rounds) {
                all &= n % round[0] == 0;
            }
            if (all) {
                return n;
            }
        }
        return -2;
    }

    // Ways: all that come to no PLACE twice are gone, on each setting out as soon as can be.

    private int[] soon;
    private List<Integer> least;
    private int goal;
    private int margin;

    private int[] walk(int from, int start, int to, int more) {
        soon = new int[heights.size()];
        Arrays.fill(soon, NEVER);
        least = null;
        goal = to;
        margin = more;
        walkOn(from, start, 0, new ArrayList<>());
        return soon;
    }

    private void walkOn(int place, int time, int been, List<Integer> told) {
        if (time < soon[place] || time == soon[place] && place == goal && less(told, least)) {
            soon[place] = time;
            least = place == goal ? new ArrayList<>(told) : least;
        }
        if (place == goal) {
            return;
        }
        for (int r = 0; r < roads.size(); r++) {
            int end = other(r, place);
            if (end < 0 || (been >> end & 1) != 0) {
                continue;
            }
            int takes = takes(r, place, end, 0);
            int t = time;
            while (t + takes <= 120 && stays(r, state.now + t, takes + margin) < takes + margin) {
                t++;
            }
            if (t + takes <= 120) {
                told.add(t);
                told.add(r);
                walkOn(end, t + takes, been | 1 << place, told);
                told.remove(told.size() - 1);
                told.remove(told.size() - 1);
            }
        }
    }

    private static boolean less(List<Integer> one, List<Integer> other) {
        for (int i = 0; i < one.size() && i < other.size(); i++) {
            if (!one.get(i).equals(other.get(i))) {
                return one.get(i) < other.get(i);
            }
        }
        return one.size() < other.size();
    }

    int soonest(int from, int to) {
        return safe(from, to, 0);
    }

    int safe(int from, int to, int m) {
        if (!isPlace(from) || !isPlace(to) || m < 0 || m > 20) {
            return -1;
        }
        int when = walk(from, 0, to, m)[to];
        return when == NEVER ? -2 : tell(when, least.toArray(new Integer[0]));
    }

    int latest(int from, int to, int n) {
        if (!isPlace(from) || !isPlace(to) || from == to || n < 0 || n > 120) {
            return -1;
        }
        for (int t = n; t >= 0; t--) {
            if (walk(from, t, to, 0)[to] <= n) {
                return t;
            }
        }
        return -2;
    }

    int within(int from, int n) {
        if (!isPlace(from) || n < 0 || n > 120) {
            return -1;
        }
        int[] when = walk(from, 0, -1, 0);
        int bits = 0;
        int longest = -1;
        for (int p = 0; p < when.length; p++) {
            if (when[p] <= n) {
                bits |= 1 << p;
                longest = longest < 0 || when[p] > when[longest] ? p : longest;
            }
        }
        return tell(bits, Integer.bitCount(bits), longest, when[longest]);
    }

    int cutoff(int from) {
        if (!isPlace(from)) {
            return -1;
        }
        int[] when = walk(from, 0, -1, 0);
        int bits = 0;
        for (int p = 0; p < when.length; p++) {
            bits |= when[p] > 120 ? 1 << p : 0;
        }
        return bits;
    }

    private int back;
    private List<Integer> order;

    int carrier(int from, int those) {
        if (!isPlace(from) || those < 0 || those >= 1 << heights.size()) {
            return -1;
        }
        int besides = those & ~(1 << from);
        if (Integer.bitCount(besides) > 6) {
            return -3;
        }
        back = NEVER;
        order = null;
        callOn(from, from, 0, besides, new ArrayList<>());
        return back > 120 ? -2 : tell(back, order.toArray(new Integer[0]));
    }

    private void callOn(int home, int place, int time, int those, List<Integer> told) {
        int[] when = walk(place, time, -1, 0);
        if (those == 0 && (when[home] < back || when[home] == back && back < NEVER && less(told, order))) {
            back = when[home];
            order = new ArrayList<>(told);
        }
        for (int p = heights.size() - 1; p >= 0; p--) {
            if ((those >> p & 1) != 0 && when[p] <= 120) {
                told.add(p);
                callOn(home, p, when[p], those & ~(1 << p), told);
                told.remove(told.size() - 1);
            }
        }
    }

    int inns(int n) {
        if (n < 0 || n > 120) {
            return -1;
        }
        int places = heights.size();
        int[][] when = new int[places][];
        for (int p = 0; p < places; p++) {
            when[p] = walk(p, 0, -1, 0);
        }
        int best = (1 << places) - 1;
        for (int those = best - 1; those >= 0; those--) {
            boolean all = true;
            for (int p = 0; p < places; p++) {
                boolean one = false;
                for (int inn = 0; inn < places; inn++) {
                    one |= (those >> inn & 1) != 0 && when[p][inn] <= n;
                }
                all &= one;
            }
            best = all && Integer.bitCount(those) <= Integer.bitCount(best) ? those : best;
        }
        return tell(Integer.bitCount(best), best);
    }

    // Carts to come: the TURNS are let go by, and all is put back.

    int arrives(int cart) {
        if (!isCart(cart) || state.carts.get(cart).road < 0) {
            return -1;
        }
        if (state.carts.get(cart).wrecked) {
            return tell(-2, 0);
        }
        State before = state;
        state = before.copy();
        int missed = 0;
        int answer = -2;
        int wrecked = -1;
        for (int k = 1; k <= 120 && answer < 0 && wrecked < 0; k++) {
            missed += isThere(state.carts.get(cart).road, state.now) ? 0 : 1;
            turn();
            answer = state.carts.get(cart).road < 0 ? k : -2;
            wrecked = state.carts.get(cart).wrecked ? k : -1;
        }
        state = before;
        return tell(answer, answer > 0 ? missed : wrecked);
    }

    int best(int cart, int road) {
        if (!isCart(cart) || !isRoad(road) || state.carts.get(cart).place < 0) {
            return -1;
        }
        if (other(road, state.carts.get(cart).place) < 0) {
            return -3;
        }
        State before = state;
        List<Integer> told = new ArrayList<>(row);
        int[] best = null;
        for (int t = 0; t <= 60; t++) {
            state = before.copy();
            state.now += t;
            if (setOut(cart, road) < 0) {
                continue;
            }
            int takes = arrives(cart);
            if (takes > 0 && (best == null || row.get(0) < best[0] || row.get(0) == best[0] && t + takes < best[1])) {
                best = new int[] {row.get(0), t + takes, t};
            }
        }
        state = before;
        row.clear();
        row.addAll(told);
        return best == null ? -2 : tell(best[2], best[0], best[1]);
    }

    int could(int place, int n) {
        if (!isPlace(place) || n < 0 || n > 120) {
            return -1;
        }
        List<Integer> told = new ArrayList<>(row);
        int bits = 0;
        for (int c = 0; c < state.carts.size(); c++) {
            Cart cart = state.carts.get(c);
            int when = cart.road < 0 ? 0 : arrives(c);
            int from = cart.road < 0 ? cart.place : cart.to;
            bits |= when >= 0 && walk(from, when, -1, 0)[place] <= n ? 1 << c : 0;
        }
        row.clear();
        row.addAll(told);
        return bits;
    }

    int mark(int t, int v) {
        if (t < 0 || t > 999 || v < 0 || v > 180 || marks.size() == 10) {
            return -1;
        }
        marks.add(new int[] {t, v});
        return marks.size();
    }

    int wash() {
        int many = marks.size();
        marks.clear();
        return many;
    }

    private List<int[]> fitting(int e) {
        List<int[]> all = new ArrayList<>();
        for (int p = 2; p <= 24; p++) {
            for (int h = 0; h <= 40; h++) {
                for (int s = 0; s < p; s++) {
                    boolean so = true;
                    for (int[] mark : marks) {
                        int off = of(mark[0], p, h, s) - mark[1];
                        so &= off >= -e && off <= e;
                    }
                    if (so) {
                        all.add(new int[] {p, h, s});
                    }
                }
            }
        }
        return all;
    }

    int fits(int e) {
        if (e < 0 || e > 20) {
            return -1;
        }
        List<int[]> all = fitting(e);
        return all.isEmpty() ? tell(0) : tell(all.size(), all.get(0)[0], all.get(0)[1], all.get(0)[2]);
    }

    private static TreeSet<Integer> levels(List<int[]> all, int t) {
        TreeSet<Integer> levels = new TreeSet<>();
        for (int[] one : all) {
            levels.add(of(t, one[0], one[1], one[2]));
        }
        return levels;
    }

    int read(int e, int t) {
        if (e < 0 || e > 20 || t < 0 || t > 999) {
            return -1;
        }
        TreeSet<Integer> levels = levels(fitting(e), t);
        return levels.isEmpty() ? tell(0, -1, -1) : tell(levels.size(), levels.first(), levels.last());
    }

    int lookat(int e) {
        if (e < 0 || e > 20) {
            return -1;
        }
        List<int[]> all = fitting(e);
        if (all.isEmpty()) {
            return -2;
        }
        int best = state.now;
        int most = 0;
        for (int t = state.now; t <= state.now + 23; t++) {
            int many = levels(all, t).size();
            best = many > most ? t : best;
            most = Math.max(many, most);
        }
        return tell(best, most);
    }

    private long drawn;

    private int draw(int n) {
        drawn = (drawn * 1103515245L + 12345L) & 0xffffffffL;
        return (int) (drawn / 65536 % n);
    }

    int years(int seed, int n) {
        if (n < 1 || n > 40) {
            return -1;
        }
        if (heights.size() < 2 || roads.isEmpty()) {
            return -2;
        }
        State before = state;
        state = before.copy();
        drawn = seed & 0xffffffffL;
        int all = 0;
        int wrecked = 0;
        int still = 0;
        for (int i = 0; i < n; i++) {
            int road = draw(roads.size());
            int one = draw(heights.size());
            int other = draw(heights.size());
            other = other == one ? (one + 1) % heights.size() : other;
            still += throwRoad(road, one, other) < 0 ? 1 : 0;
            all += goBy(draw(12));
            wrecked += Integer.bitCount(wreckedBits);
        }
        state = before;
        return tell(all, wrecked, still);
    }

    boolean keep(int i) {
        if (i != 0 && i != 1) {
            return false;
        }
        kept[i] = state.copy();
        return true;
    }

    boolean again(int i) {
        if (i != 0 && i != 1 || kept[i] == null) {
            return false;
        }
        state = kept[i].copy();
        undone.clear();
        return true;
    }

    int count(int what) {
        int onRoads = 0;
        int wrecked = 0;
        for (int c = 0; c < state.carts.size(); c++) {
            onRoads |= state.carts.get(c).road >= 0 ? 1 << c : 0;
            wrecked |= state.carts.get(c).wrecked ? 1 << c : 0;
        }
        int[] all = {heights.size(), roads.size(), state.carts.size(), state.now, roadsNow(state.now), onRoads, wrecked,
            patience, rounds.size(), marks.size(), undone.size(), row.size(), text.length()};
        return what >= 0 && what < all.length ? all[what] : -1;
    }

    int row(int i) {
        if (i < 0 || i >= row.size()) {
            throw new NoSuchElementException();
        }
        return row.get(i);
    }
}
