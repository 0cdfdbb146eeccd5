import java.util.Arrays;
import java.util.NoSuchElementException;

/**
 * Flats whose roads come in and go out with the tide, and the carts that go by them.
 * The face only asks whether a call may be answered and tells its ROW; the classes
 * inside it hold what there is and reckon with it. All rows are made once, with the object.
 */
public final class RoadsWithTides {
    public static final int NONE = -1;

    private static final int MOST_PLACES = 8;
    private static final int MOST_ROADS = 12;
    private static final int MOST_CARTS = 5;
    /** How many TURNS a question looks on from NOW. */
    private static final int FAR = 120;
    /** A time that is later than all that are asked about. */
    private static final int NEVER = 1000000;

    private final Text text = new Text();
    private final Tide sea = new Tide();
    private final Rule byRule = new Rule();
    private final Land land = new Land();
    private final Turns turns = new Turns(land, sea, byRule);
    private final History history = new History();
    private final Day acts = new Day();
    private final Ways ways = new Ways(turns);
    private final Marks marks = new Marks();
    private final Row told = new Row();

    /** No PLACES, no CARTS. */
    public RoadsWithTides() {
    }

    // ---- the flats, the tide

    public int sign(int v) {
        return text.addFour(v) ? text.length : NONE;
    }

    public boolean end(int n) {
        return text.cutTo(n);
    }

    public int flats() {
        text.open(Land.MOST_SIGNS);
        int lines = land.readFlats(text);
        boolean right = lines >= 0 && text.isAllRead();
        int answer = right ? lines : -1 - text.at;
        text.clear();
        if (right && lines > 0) {
            land.acceptFlats();
            history.forgetAll();
        }
        return answer;
    }

    public int tide() {
        text.open(Text.MOST);
        boolean right = sea.readRounds(text);
        int fault = -1 - text.at;
        text.clear();
        if (!right) {
            return fault;
        }
        sea.accept();
        return sea.rounds;
    }

    public int carts() {
        text.open(Land.MOST_CART_SIGNS);
        int lines = land.readCarts(text);
        boolean right = lines >= 0 && text.isAllRead();
        int answer = right ? lines : -1 - text.at;
        text.clear();
        if (right && lines > 0) {
            land.acceptCarts();
            history.forgetAll();
        }
        return answer;
    }

    public int rule() {
        text.open(Rule.MOST_SIGNS);
        boolean right = byRule.readRule(text) && text.isAllRead();
        int fault = -1 - text.at;
        text.clear();
        if (!right) {
            return fault;
        }
        byRule.accept();
        return 0;
    }

    public int place(int place, int what) throws NoSuchElementException {
        if (!land.hasPlace(place)) {
            throw new NoSuchElementException();
        }
        switch (what) {
            case 0:
                return land.placeHeight[place];
            case 1:
                return land.roadsAt(place);
            case 2:
                return land.roadsAt(place) & turns.roadsThereAt(land.present.now);
            case 3:
                return land.present.cartsWith(Moment.PLACE, place);
            default:
                throw new NoSuchElementException();
        }
    }

    public int road(int road, int what) throws NoSuchElementException {
        if (!land.hasRoad(road)) {
            throw new NoSuchElementException();
        }
        int first = land.present.first[road];
        int other = land.present.other[road];
        switch (what) {
            case 0:
                return first;
            case 1:
                return other;
            case 2:
                return land.steps[road];
            case 3:
                return land.roadHeight[road];
            case 4:
                return turns.isThere(road, land.present.now) ? 1 : 0;
            case 5:
                return land.present.cartsWith(Moment.ROAD, road);
            case 6:
                return turns.turnsBy(road, first, other, 0);
            case 7:
                return turns.turnsBy(road, other, first, 0);
            default:
                throw new NoSuchElementException();
        }
    }

    public int cart(int cart, int what) throws NoSuchElementException {
        if (!land.hasCart(cart) || what < 0 || what >= Moment.PARTS) {
            throw new NoSuchElementException();
        }
        return land.present.of(cart, what);
    }

    public int patience(int v) {
        if (v < 1 || v > 20) {
            return NONE;
        }
        int was = turns.patienceNow;
        turns.patienceNow = v;
        return was;
    }

    public int sheet(int kind, int n, int f, int step) {
        if (kind < 0 || kind > 3 || n > MOST_ROADS) {
            return NONE;
        }
        if (kind == 3) {
            land.tellHeights(kind, 0, f, step);
            return -3;
        }
        if (n < 0) {
            return -2;
        }
        return land.tellHeights(kind, n, f, step);
    }

    // ---- turns

    public int out(int cart, int road) {
        history.prepare(land.present);
        return history.keepIfDone(turns.setOut(cart, road));
    }

    public int round(int cart) {
        history.prepare(land.present);
        return history.keepIfDone(turns.turnRound(cart));
    }

    public int chain(int cart, int v) {
        history.prepare(land.present);
        return history.keepIfDone(turns.putChain(cart, v));
    }

    public int load(int cart, int v) {
        history.prepare(land.present);
        return history.keepIfDone(turns.putLoad(cart, v));
    }

    public int storm(int road, int one, int other) {
        history.prepare(land.present);
        return history.keepIfDone(turns.throwRoad(road, one, other));
    }

    public int pass(int n) {
        if (n < 0 || n > Turns.MOST_PASSED) {
            return NONE;
        }
        history.prepare(land.present);
        int came = turns.goBy(n);
        if (n > 0) {
            history.keepIfDone(0);
        }
        told.clear();
        told.add(turns.cameBits);
        told.add(land.present.cartsCut());
        told.add(turns.wreckedBits);
        return came;
    }

    public int day() {
        text.open(Day.MOST_SIGNS);
        int lines = acts.readActs(text);
        boolean right = lines >= 0 && text.isAllRead();
        int fault = -1 - text.at;
        text.clear();
        if (!right) {
            return fault;
        }
        history.prepare(land.present);
        int done = acts.runOn(turns);
        if (done > 0) {
            history.keepIfDone(0);
        }
        told.clear();
        told.add(done < lines ? 1 : 0);
        told.add(acts.came);
        return done;
    }

    public int undo() {
        return history.stepBack(land.present) ? history.size : NONE;
    }

    // ---- tables

    public int level(int n) {
        if (n < 0 || n > FAR) {
            return NONE;
        }
        int high = sea.heightAt(land.present.now + n);
        told.clear();
        told.add(Integer.compare(sea.heightAt(land.present.now + n + 1), high));
        return high;
    }

    public int table(int road, int n) {
        if (!land.hasRoad(road) || n < 1 || n > FAR) {
            return NONE;
        }
        int first = NONE;
        int last = NONE;
        int many = 0;
        int most = 0;
        int mostFrom = NONE;
        int behind = 0;
        for (int t = 0; t < n; t++) {
            if (!turns.isThere(road, land.present.now + t)) {
                behind = 0;
                continue;
            }
            many++;
            behind++;
            first = first == NONE ? t : first;
            last = t;
            if (behind > most) {
                most = behind;
                mostFrom = t - behind + 1;
            }
        }
        told.clear();
        told.add(first);
        told.add(last);
        told.add(most);
        told.add(mostFrom);
        return many;
    }

    public int comes(int road) {
        if (!land.hasRoad(road)) {
            return NONE;
        }
        for (int t = 0; t <= FAR; t++) {
            if (turns.isThere(road, land.present.now + t)) {
                told.clear();
                told.add(turns.stays(road, land.present.now + t, FAR));
                return t;
            }
        }
        return -2;
    }

    public int ebb() {
        int highest = sea.heightAt(land.present.now);
        int lowest = highest;
        int whenHighest = 0;
        int whenLowest = 0;
        for (int t = 1; t <= FAR; t++) {
            int high = sea.heightAt(land.present.now + t);
            if (high > highest) {
                highest = high;
                whenHighest = t;
            }
            if (high < lowest) {
                lowest = high;
                whenLowest = t;
            }
        }
        told.clear();
        told.add(whenHighest);
        told.add(lowest);
        told.add(whenLowest);
        return highest;
    }

    public int slack() {
        int many = 0;
        int first = NONE;
        int high = sea.heightAt(land.present.now);
        for (int t = 0; t < FAR; t++) {
            int next = sea.heightAt(land.present.now + t + 1);
            if (next == high) {
                many++;
                first = first == NONE ? t : first;
            }
            high = next;
        }
        told.clear();
        told.add(first);
        told.add(first == NONE ? 0 : Integer.bitCount(turns.roadsThereAt(land.present.now + first)));
        return many;
    }

    public int period() {
        for (int n = 1; n <= FAR; n++) {
            if (sea.allGoInto(n)) {
                return n;
            }
        }
        return -2;
    }

    // ---- ways

    public int soonest(int from, int to) {
        return soonestWay(from, to, 0);
    }

    public int latest(int from, int to, int n) {
        if (!land.hasPlace(from) || !land.hasPlace(to) || from == to || n < 0 || n > FAR) {
            return NONE;
        }
        ways.lookOn(0);
        for (int t = n; t >= 0; t--) {
            ways.spread(from, t, 0);
            if (ways.soon[to] <= n) {
                return t;
            }
        }
        return -2;
    }

    public int safe(int from, int to, int m) {
        if (m < 0 || m > Ways.MOST_MARGIN) {
            return NONE;
        }
        return soonestWay(from, to, m);
    }

    public int within(int from, int n) {
        if (!land.hasPlace(from) || n < 0 || n > FAR) {
            return NONE;
        }
        ways.lookOn(0);
        ways.spread(from, 0, 0);
        int longest = from;
        for (int place = 0; place < land.places; place++) {
            if (ways.soon[place] <= n && ways.soon[place] > ways.soon[longest]) {
                longest = place;
            }
        }
        int reached = ways.reachedBy(n);
        told.clear();
        told.add(Integer.bitCount(reached));
        told.add(longest);
        told.add(ways.soon[longest]);
        return reached;
    }

    public int cutoff(int from) {
        if (!land.hasPlace(from)) {
            return NONE;
        }
        ways.lookOn(0);
        ways.spread(from, 0, 0);
        return land.allPlaces() & ~ways.reachedBy(FAR);
    }

    public int carrier(int from, int those) {
        if (!land.hasPlace(from) || (those & ~land.allPlaces()) != 0) {
            return NONE;
        }
        int besides = those & ~(1 << from);
        int many = Integer.bitCount(besides);
        if (many > Ways.MOST_CALLS) {
            return -3;
        }
        ways.lookOn(0);
        int back = ways.goRound(from, besides);
        if (back > FAR) {
            return -2;
        }
        told.clear();
        for (int i = 0; i < many; i++) {
            told.add(ways.bestOrder[i]);
        }
        return back;
    }

    public int inns(int n) {
        if (n < 0 || n > FAR) {
            return NONE;
        }
        ways.lookOn(0);
        int least = ways.fewestInns(n);
        told.clear();
        told.add(least);
        return Integer.bitCount(least);
    }

    // ---- carts to come

    public int arrives(int cart) {
        if (!land.hasCart(cart) || land.present.of(cart, Moment.ROAD) == NONE) {
            return NONE;
        }
        boolean comes = turns.foresee(cart);
        told.clear();
        if (!comes) {
            told.add(turns.tripTurns);
            return -2;
        }
        told.add(turns.tripMissed);
        return turns.tripTurns;
    }

    public int best(int cart, int road) {
        if (!land.hasCart(cart) || !land.hasRoad(road) || land.present.of(cart, Moment.PLACE) == NONE) {
            return NONE;
        }
        int from = land.present.of(cart, Moment.PLACE);
        int to = land.present.farEnd(road, from);
        if (to == NONE) {
            return -3;
        }
        int takes = turns.turnsBy(road, from, to, land.present.of(cart, Moment.LOAD));
        int chained = land.present.of(cart, Moment.CHAINED);
        int best = -2;
        int leastMissed = NEVER;
        int soonestThere = NEVER;
        for (int t = 0; t <= 60; t++) {
            int start = land.present.now + t;
            if (!turns.isThere(road, start) || !turns.travels(road, takes, 0, chained, start)) {
                continue;
            }
            int missed = turns.tripMissed;
            int there = t + turns.tripTurns;
            if (missed < leastMissed || missed == leastMissed && there < soonestThere) {
                best = t;
                leastMissed = missed;
                soonestThere = there;
            }
        }
        if (best >= 0) {
            told.clear();
            told.add(leastMissed);
            told.add(soonestThere);
        }
        return best;
    }

    public int could(int place, int n) {
        if (!land.hasPlace(place) || n < 0 || n > FAR) {
            return NONE;
        }
        ways.lookOn(0);
        int bits = 0;
        for (int cart = 0; cart < land.present.cartCount; cart++) {
            int from = land.present.of(cart, Moment.PLACE);
            int time = 0;
            if (from == NONE) {
                if (!turns.foresee(cart)) {
                    continue;
                }
                from = land.present.of(cart, Moment.TO);
                time = turns.tripTurns;
            }
            ways.spread(from, time, 0);
            if (ways.soon[place] <= n) {
                bits |= 1 << cart;
            }
        }
        return bits;
    }

    // ---- marks

    public int mark(int t, int v) {
        return marks.put(t, v) ? marks.many : NONE;
    }

    public int wash() {
        int many = marks.many;
        marks.many = 0;
        return many;
    }

    public int fits(int e) {
        if (!Marks.isError(e)) {
            return NONE;
        }
        int fitting = marks.search(e, 0, 0);
        told.clear();
        if (fitting > 0) {
            told.add(marks.leastLong);
            told.add(marks.leastHigh);
            told.add(marks.leastOn);
        }
        return fitting;
    }

    public int read(int e, int t) {
        if (!Marks.isError(e) || !Marks.isTime(t)) {
            return NONE;
        }
        marks.search(e, t, 1);
        long seen = marks.seen[0];
        told.clear();
        told.add(seen == 0 ? NONE : Long.numberOfTrailingZeros(seen));
        told.add(seen == 0 ? NONE : 63 - Long.numberOfLeadingZeros(seen));
        return Long.bitCount(seen);
    }

    public int lookat(int e) {
        if (!Marks.isError(e)) {
            return NONE;
        }
        if (marks.search(e, land.present.now, Marks.MOST_LOOKS) == 0) {
            return -2;
        }
        int best = 0;
        for (int k = 1; k < Marks.MOST_LOOKS; k++) {
            if (Long.bitCount(marks.seen[k]) > Long.bitCount(marks.seen[best])) {
                best = k;
            }
        }
        told.clear();
        told.add(Long.bitCount(marks.seen[best]));
        return land.present.now + best;
    }

    // ---- years

    public int years(int seed, int n) {
        if (n < 1 || n > 40) {
            return NONE;
        }
        if (land.places < 2 || land.roads == 0) {
            return -2;
        }
        // The years are only asked about: what they change is put back.
        history.aside.copyFrom(land.present);
        int came = turns.stormYears(seed, n);
        land.present.copyFrom(history.aside);
        told.clear();
        told.add(turns.yearsWrecked);
        told.add(turns.yearsStill);
        return came;
    }

    // ---- kept

    public boolean keep(int i) {
        return history.store(i, land.present);
    }

    public boolean again(int i) {
        return history.restore(i, land.present);
    }

    public int count(int what) {
        switch (what) {
            case 0:
                return land.places;
            case 1:
                return land.roads;
            case 2:
                return land.present.cartCount;
            case 3:
                return land.present.now;
            case 4:
                return turns.roadsThereAt(land.present.now);
            case 5:
                return land.present.cartsWith(Moment.PLACE, NONE);
            case 6:
                return land.present.cartsWith(Moment.WRECKED, 1);
            case 7:
                return turns.patienceNow;
            case 8:
                return sea.rounds;
            case 9:
                return marks.many;
            case 10:
                return history.size;
            case 11:
                return told.size;
            case 12:
                return text.length;
            default:
                return NONE;
        }
    }

    public int row(int i) throws NoSuchElementException {
        if (i < 0 || i >= told.size) {
            throw new NoSuchElementException();
        }
        return told.numbers[i];
    }

    private int soonestWay(int from, int to, int margin) {
        if (!land.hasPlace(from) || !land.hasPlace(to)) {
            return NONE;
        }
        ways.lookOn(margin);
        ways.spread(from, 0, 0);
        int when = ways.soon[to];
        if (when > FAR) {
            return -2;
        }
        told.clear();
        ways.tellLeastWay(from, to, when, told);
        return when;
    }

    /** The numbers told last. */
    private static final class Row {
        final int[] numbers = new int[16];
        int size = 0;

        void clear() {
            size = 0;
        }

        void add(int number) {
            if (size < numbers.length) {
                numbers[size] = number;
                size++;
            }
        }
    }

    /** THE TEXT, and where one is in it while it is read. */
    private static final class Text {
        static final int MOST = 80;
        static final int END = -1;

        final int[] signs = new int[MOST];
        int length = 0;
        int at = 0;
        /** Signs behind this one are not read: the text ends here, or is too long from here on. */
        int limit = 0;

        boolean addFour(int v) {
            if (length + 4 > MOST) {
                return false;
            }
            for (int shift = 24; shift >= 0; shift -= 8) {
                signs[length] = v >>> shift & 255;
                length++;
            }
            return true;
        }

        boolean cutTo(int n) {
            if (n < 0 || n > length) {
                return false;
            }
            length = n;
            return true;
        }

        void clear() {
            length = 0;
        }

        void open(int mostSigns) {
            at = 0;
            limit = Math.min(length, mostSigns);
        }

        boolean isAllRead() {
            return at == length;
        }

        int peek() {
            return at >= 0 && at < limit ? signs[at] : END;
        }

        boolean take(int sign) {
            if (peek() != sign) {
                return false;
            }
            at++;
            return true;
        }

        boolean isDigit() {
            return peek() >= '0' && peek() <= '9';
        }

        /** A number of as many digits as there are, but no more than told; NONE without one. */
        int takeNumber(int mostDigits) {
            if (!isDigit()) {
                return NONE;
            }
            int number = 0;
            for (int i = 0; i < mostDigits && isDigit(); i++) {
                number = number * 10 + peek() - '0';
                at++;
            }
            return number;
        }

        /** The number of a letter, if it is below a bound; else NONE, and it is not taken. */
        int takeLetter(int bound) {
            int letter = peek() - 'a';
            if (letter < 0 || letter >= bound) {
                return NONE;
            }
            at++;
            return letter;
        }

        /** Behind a LINE: 1 if another one is due, 0 if the text ends, NONE if the sign can't stand there. */
        int behindLine() {
            if (take(';')) {
                return 1;
            }
            return peek() == END ? 0 : NONE;
        }
    }

    /** THE TIDE: a sum of ROUNDS. */
    private static final class Tide {
        static final int MOST_ROUNDS = 3;
        static final int PARTS = 3;

        final int[] parts = new int[MOST_ROUNDS * PARTS];
        final int[] draft = new int[MOST_ROUNDS * PARTS];
        int rounds = 1;
        int draftRounds = 0;

        Tide() {
            parts[0] = 12;
            parts[1] = 20;
            parts[2] = 0;
        }

        /** LEVEL at time t of one ROUND. */
        static int ofRound(int t, int length, int high, int on) {
            if (length <= 0) {
                return 0;
            }
            int x = (t + on) % length;
            int twice = 2 * x <= length ? 2 * x : 2 * (length - x);
            return high * twice / length;
        }

        int heightAt(int t) {
            int sum = 0;
            for (int i = 0; i < rounds; i++) {
                sum += ofRound(t, parts[i * PARTS], parts[i * PARTS + 1], parts[i * PARTS + 2]);
            }
            return sum;
        }

        boolean allGoInto(int n) {
            for (int i = 0; i < rounds; i++) {
                int length = parts[i * PARTS];
                if (length <= 0 || n % length != 0) {
                    return false;
                }
            }
            return true;
        }

        /** False: the sign at which the text stays can't stand there. */
        boolean readRounds(Text text) {
            draftRounds = 0;
            for (int i = 0; i < MOST_ROUNDS; i++) {
                if (!readRound(text, i * PARTS)) {
                    return false;
                }
                draftRounds++;
                if (text.peek() == Text.END) {
                    return true;
                }
                if (i == MOST_ROUNDS - 1 || !text.take('+')) {
                    return false;
                }
            }
            return false;
        }

        private boolean readRound(Text text, int base) {
            if (!readPart(text, base, 2, 60) || !text.take('*') || !readPart(text, base + 1, 0, 60)) {
                return false;
            }
            draft[base + 2] = 0;
            return !text.take('/') || readPart(text, base + 2, 0, 59);
        }

        private boolean readPart(Text text, int index, int least, int most) {
            int number = text.takeNumber(2);
            if (number == NONE) {
                return false;
            }
            if (number < least || number > most) {
                // The fault is told at the last digit, which has been taken already.
                text.at--;
                return false;
            }
            draft[index] = number;
            return true;
        }

        void accept() {
            System.arraycopy(draft, 0, parts, 0, draft.length);
            rounds = draftRounds;
        }
    }

    /**
     * THE RULE. It is turned into postfix form when it is read, so that TURNS are reckoned
     * by one walk over a stack and without calls into one another.
     */
    private static final class Rule {
        static final int MOST_SIGNS = 40;
        static final int MOST_DEPTH = 4;
        static final int MOST_TURNS = 20;
        /** Codes below this one are numbers. */
        static final int LETTERS = 1000;
        /** Codes from this one on are operators, by their sign. */
        static final int OPERATORS = 2000;
        /** The sign by which - ahead of a thing is told from - between two. */
        static final int NEGATIVE = '~';

        final int[] code = new int[MOST_SIGNS];
        int size = 0;
        final int[] draft = new int[MOST_SIGNS];
        int draftSize = 0;
        final int[] waiting = new int[MOST_SIGNS];
        int waitingSize = 0;
        final int[] stack = new int[MOST_SIGNS];
        /** What the letters s, u, h, l, r, a stand for. */
        final int[] values = new int[6];
        private int depth = 0;
        private int compared = 0;

        /** False: the sign at which the text stays can't stand there. */
        boolean readRule(Text text) {
            draftSize = 0;
            waitingSize = 0;
            depth = 0;
            compared = 0;
            if (text.length == 0) {
                return true;
            }
            boolean thingIsDue = true;
            for (int i = 0; i <= MOST_SIGNS; i++) {
                if (text.peek() == Text.END) {
                    popTo(0);
                    return !thingIsDue && depth == 0;
                }
                if (thingIsDue) {
                    if (readAhead(text)) {
                        continue;
                    }
                    if (!readThing(text)) {
                        return false;
                    }
                    thingIsDue = false;
                } else if (!readClose(text)) {
                    if (!readOperator(text)) {
                        return false;
                    }
                    thingIsDue = true;
                }
            }
            return false;
        }

        /** What may stand ahead of a thing: - and (. */
        private boolean readAhead(Text text) {
            if (text.take('-')) {
                push(NEGATIVE);
                return true;
            }
            if (text.peek() == '(' && depth < MOST_DEPTH) {
                text.take('(');
                push('(');
                depth++;
                compared &= ~(1 << depth);
                return true;
            }
            return false;
        }

        private boolean readThing(Text text) {
            int number = text.takeNumber(3);
            if (number >= 0) {
                put(number);
                return true;
            }
            int letter = letterOf(text.peek());
            if (letter == NONE) {
                return false;
            }
            text.at++;
            put(LETTERS + letter);
            return true;
        }

        private boolean readClose(Text text) {
            if (depth == 0 || !text.take(')')) {
                return false;
            }
            popTo(1);
            if (waitingSize > 0) {
                waitingSize--;
            }
            depth--;
            return true;
        }

        private boolean readOperator(Text text) {
            int sign = text.peek();
            int rank = rankOf(sign);
            if (rank < 1 || sign == NEGATIVE) {
                return false;
            }
            if (rank == 1) {
                if ((compared >> depth & 1) != 0) {
                    return false;
                }
                compared |= 1 << depth;
            }
            text.at++;
            popTo(rank);
            push(sign);
            return true;
        }

        /** Puts the waiting operators that bind as much as a rank or more, down to the nearest bracket. */
        private void popTo(int rank) {
            for (int i = 0; i < MOST_SIGNS && waitingSize > 0; i++) {
                int sign = waiting[waitingSize - 1];
                if (rankOf(sign) < Math.max(rank, 1)) {
                    return;
                }
                waitingSize--;
                put(OPERATORS + sign);
            }
        }

        private void push(int sign) {
            if (waitingSize < waiting.length) {
                waiting[waitingSize] = sign;
                waitingSize++;
            }
        }

        private void put(int one) {
            if (draftSize < draft.length) {
                draft[draftSize] = one;
                draftSize++;
            }
        }

        private static int letterOf(int sign) {
            switch (sign) {
                case 's':
                    return 0;
                case 'u':
                    return 1;
                case 'h':
                    return 2;
                case 'l':
                    return 3;
                case 'r':
                    return 4;
                case 'a':
                    return 5;
                default:
                    return NONE;
            }
        }

        private static int rankOf(int sign) {
            switch (sign) {
                case '<':
                case '>':
                case '=':
                    return 1;
                case '+':
                case '-':
                    return 2;
                case '*':
                case '/':
                    return 3;
                case NEGATIVE:
                    return 4;
                default:
                    return 0;
            }
        }

        void accept() {
            System.arraycopy(draft, 0, code, 0, draft.length);
            size = draftSize;
        }

        int turnsOf(int steps, int climb, int height, int load, int road, int fromHeight) {
            values[0] = steps;
            values[1] = climb;
            values[2] = height;
            values[3] = load;
            values[4] = road;
            values[5] = fromHeight;
            int result = size == 0 ? steps + Math.max(climb, 0) / 20 : reckon();
            return Math.max(1, Math.min(MOST_TURNS, result));
        }

        private int reckon() {
            int top = 0;
            for (int i = 0; i < size; i++) {
                int one = code[i];
                if (one < OPERATORS) {
                    if (top < stack.length) {
                        stack[top] = one < LETTERS ? one : valueOf(one - LETTERS);
                        top++;
                    }
                } else if (one == OPERATORS + NEGATIVE) {
                    if (top > 0) {
                        stack[top - 1] = -stack[top - 1];
                    }
                } else if (top > 1) {
                    top--;
                    stack[top - 1] = join(one - OPERATORS, stack[top - 1], stack[top]);
                }
            }
            return stack[0];
        }

        private int valueOf(int letter) {
            return letter >= 0 && letter < values.length ? values[letter] : 0;
        }

        private static int join(int sign, int left, int right) {
            switch (sign) {
                case '+':
                    return left + right;
                case '-':
                    return left - right;
                case '*':
                    return left * right;
                case '/':
                    return right == 0 ? 0 : left / right;
                case '<':
                    return left < right ? 1 : 0;
                case '>':
                    return left > right ? 1 : 0;
                default:
                    return left == right ? 1 : 0;
            }
        }
    }

    /** NOW, CARTS, and between which PLACES ROADS are: all that undo(), again() and years() put back. */
    private static final class Moment {
        static final int PLACE = 0;
        static final int ROAD = 1;
        static final int TO = 2;
        static final int LEFT = 3;
        static final int LOAD = 4;
        static final int CHAINED = 5;
        static final int CUT = 6;
        static final int WRECKED = 7;
        static final int PARTS = 8;

        int now = 0;
        int cartCount = 0;
        final int[] cartParts = new int[MOST_CARTS * PARTS];
        final int[] first = new int[MOST_ROADS];
        final int[] other = new int[MOST_ROADS];

        void copyFrom(Moment from) {
            now = from.now;
            cartCount = from.cartCount;
            System.arraycopy(from.cartParts, 0, cartParts, 0, cartParts.length);
            System.arraycopy(from.first, 0, first, 0, first.length);
            System.arraycopy(from.other, 0, other, 0, other.length);
        }

        int of(int cart, int part) {
            return cartParts[cart * PARTS + part];
        }

        void put(int cart, int part, int value) {
            cartParts[cart * PARTS + part] = value;
        }

        void putAtPlace(int cart, int place) {
            put(cart, PLACE, place);
            put(cart, ROAD, NONE);
            put(cart, TO, NONE);
            put(cart, LEFT, 0);
            put(cart, CUT, 0);
        }

        void putOnRoad(int cart, int road, int to, int left) {
            put(cart, PLACE, NONE);
            put(cart, ROAD, road);
            put(cart, TO, to);
            put(cart, LEFT, left);
        }

        int cartsWith(int part, int value) {
            int bits = 0;
            for (int cart = 0; cart < cartCount; cart++) {
                if (of(cart, part) == value) {
                    bits |= 1 << cart;
                }
            }
            return bits;
        }

        int cartsCut() {
            int bits = 0;
            for (int cart = 0; cart < cartCount; cart++) {
                if (of(cart, CUT) > 0) {
                    bits |= 1 << cart;
                }
            }
            return bits;
        }

        /** The other end of a ROAD, or NONE if it does not end at a PLACE. */
        int farEnd(int road, int place) {
            if (first[road] == place) {
                return other[road];
            }
            return other[road] == place ? first[road] : NONE;
        }
    }

    /** THE FLATS, and what there is in them now. Lines are written behind what there is and counted at the end. */
    private static final class Land {
        static final int MOST_SIGNS = 76;
        static final int MOST_CART_SIGNS = 40;

        final Moment present = new Moment();
        int places = 0;
        int roads = 0;
        final int[] placeHeight = new int[MOST_PLACES];
        final int[] steps = new int[MOST_ROADS];
        final int[] roadHeight = new int[MOST_ROADS];
        private int newPlaces = 0;
        private int newRoads = 0;
        private int newCarts = 0;

        boolean hasPlace(int place) {
            return place >= 0 && place < places;
        }

        boolean hasRoad(int road) {
            return road >= 0 && road < roads;
        }

        boolean hasCart(int cart) {
            return cart >= 0 && cart < present.cartCount;
        }

        int allPlaces() {
            return (1 << places) - 1;
        }

        int roadsAt(int place) {
            int bits = 0;
            for (int road = 0; road < roads; road++) {
                if (present.farEnd(road, place) != NONE) {
                    bits |= 1 << road;
                }
            }
            return bits;
        }

        /** How many LINES; NONE: the sign at which the text stays can't stand there. */
        int readFlats(Text text) {
            newPlaces = places;
            newRoads = roads;
            if (text.length == 0) {
                return 0;
            }
            for (int lines = 1; lines <= Text.MOST; lines++) {
                boolean right = text.peek() == 'p' ? readPlace(text) : readRoad(text);
                if (!right) {
                    return NONE;
                }
                int next = text.behindLine();
                if (next != 1) {
                    return next == 0 ? lines : NONE;
                }
            }
            return NONE;
        }

        private boolean readPlace(Text text) {
            if (newPlaces >= MOST_PLACES || !text.take('p')) {
                return false;
            }
            int height = text.takeNumber(2);
            if (height == NONE) {
                return false;
            }
            placeHeight[newPlaces] = height;
            newPlaces++;
            return true;
        }

        private boolean readRoad(Text text) {
            if (newRoads >= MOST_ROADS || !text.take('r')) {
                return false;
            }
            int one = text.takeLetter(newPlaces);
            if (one == NONE || text.peek() == 'a' + one) {
                return false;
            }
            int two = text.takeLetter(newPlaces);
            if (two == NONE || text.peek() == '0') {
                return false;
            }
            int stepsTold = text.takeNumber(1);
            if (stepsTold == NONE || !text.take('-')) {
                return false;
            }
            int height = text.takeNumber(2);
            if (height == NONE) {
                return false;
            }
            present.first[newRoads] = one;
            present.other[newRoads] = two;
            steps[newRoads] = stepsTold;
            roadHeight[newRoads] = height;
            newRoads++;
            return true;
        }

        void acceptFlats() {
            places = newPlaces;
            roads = newRoads;
        }

        /** As readFlats(). */
        int readCarts(Text text) {
            newCarts = present.cartCount;
            if (text.length == 0) {
                return 0;
            }
            for (int lines = 1; lines <= Text.MOST; lines++) {
                if (!readCart(text)) {
                    return NONE;
                }
                int next = text.behindLine();
                if (next != 1) {
                    return next == 0 ? lines : NONE;
                }
            }
            return NONE;
        }

        private boolean readCart(Text text) {
            if (newCarts >= MOST_CARTS) {
                return false;
            }
            int place = text.takeLetter(places);
            if (place == NONE) {
                return false;
            }
            int burden = text.takeNumber(1);
            if (burden == NONE) {
                return false;
            }
            present.putAtPlace(newCarts, place);
            present.put(newCarts, Moment.LOAD, burden);
            present.put(newCarts, Moment.CHAINED, text.take('*') ? 1 : 0);
            present.put(newCarts, Moment.WRECKED, 0);
            newCarts++;
            return true;
        }

        void acceptCarts() {
            present.cartCount = newCarts;
        }

        /** HEIGHTS of ROADS by a sheet of n entries: their sum. */
        int tellHeights(int kind, int n, int f, int step) {
            int sum = 0;
            int entry = f;
            for (int road = 0; road < roads; road++) {
                roadHeight[road] = road < n ? Math.max(0, Math.min(99, entryOf(kind, entry))) : 0;
                sum += roadHeight[road];
                entry += step;
            }
            return sum;
        }

        private static int entryOf(int kind, int entry) {
            if (kind == 0) {
                return (byte) entry;
            }
            return kind == 1 ? (short) entry : entry;
        }
    }

    /** What can be undone, and what is kept under numbers. */
    private static final class History {
        static final int MOST_UNDONE = 12;
        static final int MOST_KEPT = 2;

        /** One more than can be undone: the moment ahead of a call that is refused must not cost the oldest. */
        final Moment[] ring = new Moment[MOST_UNDONE + 1];
        final Moment[] kept = new Moment[MOST_KEPT];
        final boolean[] isKept = new boolean[MOST_KEPT];
        final Moment aside = new Moment();
        int free = 0;
        int size = 0;

        History() {
            for (int i = 0; i < ring.length; i++) {
                ring[i] = new Moment();
            }
            for (int i = 0; i < kept.length; i++) {
                kept[i] = new Moment();
            }
        }

        void prepare(Moment present) {
            ring[free].copyFrom(present);
        }

        /** What was prepared can be undone, if the call was done: its answer. */
        int keepIfDone(int answer) {
            if (answer >= 0) {
                free = free == MOST_UNDONE ? 0 : free + 1;
                size = Math.min(size + 1, MOST_UNDONE);
            }
            return answer;
        }

        boolean stepBack(Moment present) {
            if (size == 0) {
                return false;
            }
            free = free == 0 ? MOST_UNDONE : free - 1;
            size--;
            present.copyFrom(ring[free]);
            return true;
        }

        boolean store(int i, Moment present) {
            if (i < 0 || i >= MOST_KEPT) {
                return false;
            }
            kept[i].copyFrom(present);
            isKept[i] = true;
            return true;
        }

        boolean restore(int i, Moment present) {
            if (i < 0 || i >= MOST_KEPT || !isKept[i]) {
                return false;
            }
            present.copyFrom(kept[i]);
            size = 0;
            return true;
        }

        void forgetAll() {
            size = 0;
            for (int i = 0; i < isKept.length; i++) {
                isKept[i] = false;
            }
        }
    }

    /** TURNS, and what is done between them; acts answer as the calls that bear their names. */
    private static final class Turns {
        static final int MOST_PASSED = 99;

        final Land land;
        final Moment present;
        final Tide sea;
        final Rule byRule;
        int patienceNow = 6;
        int cameBits = 0;
        int wreckedBits = 0;
        int tripTurns = 0;
        int tripMissed = 0;
        int yearsWrecked = 0;
        int yearsStill = 0;
        private int drawn = 0;

        Turns(Land land, Tide sea, Rule byRule) {
            this.land = land;
            this.present = land.present;
            this.sea = sea;
            this.byRule = byRule;
        }

        boolean isThere(int road, int t) {
            return sea.heightAt(t) >= land.roadHeight[road];
        }

        int roadsThereAt(int t) {
            int high = sea.heightAt(t);
            int bits = 0;
            for (int road = 0; road < land.roads; road++) {
                if (high >= land.roadHeight[road]) {
                    bits |= 1 << road;
                }
            }
            return bits;
        }

        /** For how many TURNS from a time on a ROAD is THERE. */
        int stays(int road, int from, int most) {
            int many = 0;
            while (many < most && isThere(road, from + many)) {
                many++;
            }
            return many;
        }

        int turnsBy(int road, int from, int to, int burden) {
            int fromHeight = land.placeHeight[from];
            int climb = land.placeHeight[to] - fromHeight;
            return byRule.turnsOf(land.steps[road], climb, land.roadHeight[road], burden, road, fromHeight);
        }

        int setOut(int cart, int road) {
            if (!land.hasCart(cart) || !land.hasRoad(road)) {
                return NONE;
            }
            int from = present.of(cart, Moment.PLACE);
            if (from == NONE) {
                return -2;
            }
            int to = present.farEnd(road, from);
            if (to == NONE) {
                return -3;
            }
            if (!isThere(road, present.now)) {
                return -4;
            }
            int takes = turnsBy(road, from, to, present.of(cart, Moment.LOAD));
            present.putOnRoad(cart, road, to, takes);
            return takes;
        }

        int turnRound(int cart) {
            if (!land.hasCart(cart) || present.of(cart, Moment.ROAD) == NONE || present.of(cart, Moment.WRECKED) != 0) {
                return NONE;
            }
            int road = present.of(cart, Moment.ROAD);
            int aim = present.of(cart, Moment.TO);
            int back = present.farEnd(road, aim);
            if (back == NONE) {
                return NONE;
            }
            int takes = turnsBy(road, aim, back, present.of(cart, Moment.LOAD));
            int left = Math.max(1, takes - present.of(cart, Moment.LEFT));
            present.putOnRoad(cart, road, back, left);
            return left;
        }

        int putChain(int cart, int v) {
            if (!land.hasCart(cart) || v < 0 || v > 1 || present.of(cart, Moment.WRECKED) != 0) {
                return NONE;
            }
            int was = present.of(cart, Moment.CHAINED);
            present.put(cart, Moment.CHAINED, v);
            return was;
        }

        int putLoad(int cart, int v) {
            if (!land.hasCart(cart) || v < 0 || v > 9 || present.of(cart, Moment.PLACE) == NONE) {
                return NONE;
            }
            int was = present.of(cart, Moment.LOAD);
            present.put(cart, Moment.LOAD, v);
            return was;
        }

        int throwRoad(int road, int one, int other) {
            if (!land.hasRoad(road) || !land.hasPlace(one) || !land.hasPlace(other) || one == other) {
                return NONE;
            }
            if (present.cartsWith(Moment.ROAD, road) != 0) {
                return -2;
            }
            int was = 8 * present.first[road] + present.other[road];
            present.first[road] = one;
            present.other[road] = other;
            return was;
        }

        /** Some TURNS go by: how many CARTS came to a PLACE. */
        int goBy(int n) {
            int came = 0;
            cameBits = 0;
            wreckedBits = 0;
            for (int i = 0; i < n; i++) {
                int high = sea.heightAt(present.now);
                for (int cart = 0; cart < present.cartCount; cart++) {
                    if (goOn(cart, high)) {
                        came++;
                    }
                }
                present.now++;
            }
            return came;
        }

        /** A TURN of one CART: whether it came to a PLACE. */
        private boolean goOn(int cart, int high) {
            int road = present.of(cart, Moment.ROAD);
            if (!land.hasRoad(road) || present.of(cart, Moment.WRECKED) != 0) {
                return false;
            }
            if (high >= land.roadHeight[road]) {
                int left = present.of(cart, Moment.LEFT) - 1;
                present.put(cart, Moment.CUT, 0);
                present.put(cart, Moment.LEFT, left);
                if (left > 0) {
                    return false;
                }
                present.putAtPlace(cart, present.of(cart, Moment.TO));
                cameBits |= 1 << cart;
                return true;
            }
            int cut = present.of(cart, Moment.CUT) + 1;
            present.put(cart, Moment.CUT, cut);
            if (present.of(cart, Moment.CHAINED) == 0 && cut >= patienceNow) {
                present.put(cart, Moment.WRECKED, 1);
                wreckedBits |= 1 << cart;
            }
            return false;
        }

        /**
         * Whether a CART that is on a ROAD at a time comes to its end in 120 TURNS. tripTurns: behind
         * how many it does, or is WRECKED, or NONE; tripMissed: in how many the ROAD is not THERE.
         */
        boolean travels(int road, int toGo, int cutBefore, int chained, int start) {
            int left = toGo;
            int cut = cutBefore;
            tripMissed = 0;
            for (int k = 1; k <= FAR; k++) {
                tripTurns = k;
                if (isThere(road, start + k - 1)) {
                    cut = 0;
                    left--;
                    if (left <= 0) {
                        return true;
                    }
                } else {
                    tripMissed++;
                    cut++;
                    if (chained == 0 && cut >= patienceNow) {
                        return false;
                    }
                }
            }
            tripTurns = NONE;
            return false;
        }

        /** As travels(), of a CART as it is now. */
        boolean foresee(int cart) {
            int road = present.of(cart, Moment.ROAD);
            if (!land.hasRoad(road) || present.of(cart, Moment.WRECKED) != 0) {
                tripTurns = 0;
                return false;
            }
            return travels(road, present.of(cart, Moment.LEFT), present.of(cart, Moment.CUT),
                    present.of(cart, Moment.CHAINED), present.now);
        }

        private int draw(int n) {
            drawn = drawn * 1103515245 + 12345;
            return n <= 0 ? 0 : (drawn >>> 16) % n;
        }

        int stormYears(int seed, int n) {
            int came = 0;
            drawn = seed;
            yearsWrecked = 0;
            yearsStill = 0;
            for (int i = 0; i < n; i++) {
                int road = draw(land.roads);
                int one = draw(land.places);
                int other = draw(land.places);
                if (other == one) {
                    other = one + 1 < land.places ? one + 1 : 0;
                }
                if (throwRoad(road, one, other) < 0) {
                    yearsStill++;
                }
                came += goBy(draw(12));
                yearsWrecked += Integer.bitCount(wreckedBits);
            }
            return came;
        }
    }

    /** A DAY: its ACTS are all read ahead of the first being done. */
    private static final class Day {
        static final int MOST_SIGNS = 60;

        final int[] kinds = new int[MOST_SIGNS];
        final int[] ones = new int[MOST_SIGNS];
        final int[] others = new int[MOST_SIGNS];
        int many = 0;
        int came = 0;

        /** How many ACTS; NONE: the sign at which the text stays can't stand there. */
        int readActs(Text text) {
            many = 0;
            if (text.length == 0) {
                return 0;
            }
            while (many < MOST_SIGNS) {
                if (!readAct(text)) {
                    return NONE;
                }
                many++;
                int next = text.behindLine();
                if (next != 1) {
                    return next == 0 ? many : NONE;
                }
            }
            return NONE;
        }

        private boolean readAct(Text text) {
            int kind = text.peek();
            if (kind != 'o' && kind != 't' && kind != 'b' && kind != 'c' && kind != 'l') {
                return false;
            }
            text.at++;
            kinds[many] = kind;
            ones[many] = text.takeNumber(kind == 't' ? 2 : 1);
            if (ones[many] == NONE) {
                return false;
            }
            others[many] = 0;
            if (kind == 'o' || kind == 'l') {
                others[many] = text.takeNumber(kind == 'o' ? 2 : 1);
            }
            return others[many] != NONE;
        }

        /** Does the ACTS till one can't be: how many were done. */
        int runOn(Turns turns) {
            came = 0;
            for (int i = 0; i < many; i++) {
                if (runAct(turns, kinds[i], ones[i], others[i]) < 0) {
                    return i;
                }
            }
            return many;
        }

        private int runAct(Turns turns, int kind, int one, int other) {
            switch (kind) {
                case 'o':
                    return turns.setOut(one, other);
                case 't':
                    came += turns.goBy(one);
                    return 0;
                case 'b':
                    return turns.turnRound(one);
                case 'c':
                    return turns.land.hasCart(one)
                            ? turns.putChain(one, 1 - turns.present.of(one, Moment.CHAINED)) : NONE;
                default:
                    return turns.putLoad(one, other);
            }
        }
    }

    /**
     * Ways by ROADS that are THERE, without LOAD. As one may wait at PLACES, to be at one sooner
     * is never worse; so of each ROAD only the first time to set out by it need be looked at.
     */
    private static final class Ways {
        static final int MOST_MARGIN = 20;
        static final int MOST_CALLS = 6;
        /** Times 0 .. 120, and one behind them at which nothing is set out on. */
        static final int TIMES = FAR + 2;

        final Turns turns;
        final Land land;
        /** By ROAD and direction (twice the number; one more: from the other PLACE to the first). */
        final int[] takes = new int[2 * MOST_ROADS];
        /** By direction and time: the first time from it on at which one can set out, or NEVER. */
        final int[] outs = new int[2 * MOST_ROADS * TIMES];
        final int[] runs = new int[MOST_ROADS];
        /** When one can be at each PLACE the soonest, by the latest spread(). */
        final int[] soon = new int[MOST_PLACES];
        final int[] reach = new int[MOST_PLACES];
        final int[] bestOrder = new int[MOST_CALLS];
        private final int[] order = new int[MOST_CALLS];
        private final int[] soonByDepth = new int[(MOST_CALLS + 1) * MOST_PLACES];
        private int home = 0;
        private int bestBack = NEVER;

        Ways(Turns turns) {
            this.turns = turns;
            this.land = turns.land;
        }

        /** Looks when one can set out by which ROAD; a margin: TURNS more for which it must be THERE. */
        void lookOn(int margin) {
            Moment present = land.present;
            for (int road = 0; road < land.roads; road++) {
                takes[2 * road] = turns.turnsBy(road, present.first[road], present.other[road], 0);
                takes[2 * road + 1] = turns.turnsBy(road, present.other[road], present.first[road], 0);
                runs[road] = 0;
            }
            Arrays.fill(outs, NEVER);
            for (int t = FAR + MOST_MARGIN; t >= 0; t--) {
                int high = turns.sea.heightAt(present.now + t);
                for (int road = 0; road < land.roads; road++) {
                    runs[road] = high >= land.roadHeight[road] ? runs[road] + 1 : 0;
                    noteOut(2 * road, t, margin);
                    noteOut(2 * road + 1, t, margin);
                }
            }
        }

        private void noteOut(int way, int t, int margin) {
            if (t > FAR) {
                return;
            }
            boolean can = runs[way / 2] >= takes[way] + margin && t + takes[way] <= FAR;
            outs[way * TIMES + t] = can ? t : outs[way * TIMES + t + 1];
        }

        private int outFrom(int way, int t) {
            return t >= 0 && t <= FAR ? outs[way * TIMES + t] : NEVER;
        }

        /** Fills soon[] for one who is at a PLACE at a time and comes to none of the shut ones. */
        void spread(int from, int time, int shut) {
            Arrays.fill(soon, NEVER);
            soon[from] = time;
            boolean changed = true;
            for (int i = 0; i < MOST_PLACES && changed; i++) {
                changed = false;
                for (int road = 0; road < land.roads; road++) {
                    int first = land.present.first[road];
                    int other = land.present.other[road];
                    boolean there = goBetween(2 * road, first, other, shut);
                    boolean back = goBetween(2 * road + 1, other, first, shut);
                    changed = changed || there || back;
                }
            }
        }

        /** Whether by a ROAD one is at its end sooner than was known. */
        private boolean goBetween(int way, int from, int to, int shut) {
            if ((shut >> to & 1) != 0) {
                return false;
            }
            int when = outFrom(way, soon[from]);
            if (when == NEVER || when + takes[way] >= soon[to]) {
                return false;
            }
            soon[to] = when + takes[way];
            return true;
        }

        int reachedBy(int n) {
            int bits = 0;
            for (int place = 0; place < land.places; place++) {
                if (soon[place] <= n) {
                    bits |= 1 << place;
                }
            }
            return bits;
        }

        /** Tells the least row of the ways on which one is at a PLACE by a time and at none twice. */
        void tellLeastWay(int from, int to, int by, Row row) {
            int place = from;
            int time = 0;
            int shut = 0;
            for (int leg = 0; leg < MOST_PLACES && place != to; leg++) {
                shut |= 1 << place;
                int way = leastWayOn(place, time, shut, to, by);
                if (way == NONE) {
                    return;
                }
                int when = outFrom(way, time);
                row.add(when);
                row.add(way / 2);
                time = when + takes[way];
                place = land.present.farEnd(way / 2, place);
                if (place == NONE) {
                    return;
                }
            }
        }

        private int leastWayOn(int place, int time, int shut, int to, int by) {
            int best = NONE;
            int bestOut = NEVER;
            for (int road = 0; road < land.roads; road++) {
                int end = land.present.farEnd(road, place);
                if (end == NONE || (shut >> end & 1) != 0) {
                    continue;
                }
                int way = land.present.first[road] == place ? 2 * road : 2 * road + 1;
                int when = outFrom(way, time);
                if (when >= bestOut) {
                    continue;
                }
                spread(end, when + takes[way], shut);
                if (soon[to] <= by) {
                    best = way;
                    bestOut = when;
                }
            }
            return best;
        }

        /** When a carrier is back the soonest (its order: bestOrder), or NEVER. */
        int goRound(int from, int calls) {
            home = from;
            bestBack = NEVER;
            callOn(this, 0, from, 0, calls);
            return bestBack;
        }

        /** Orders are tried from the least on, so that of as soon ones the first stays. */
        private static void callOn(Ways ways, int depth, int place, int time, int calls) {
            ways.spread(place, time, 0);
            if (calls == 0) {
                if (ways.soon[ways.home] < ways.bestBack) {
                    ways.bestBack = ways.soon[ways.home];
                    System.arraycopy(ways.order, 0, ways.bestOrder, 0, MOST_CALLS);
                }
                return;
            }
            if (depth >= MOST_CALLS) {
                return;
            }
            int base = depth * MOST_PLACES;
            System.arraycopy(ways.soon, 0, ways.soonByDepth, base, MOST_PLACES);
            for (int next = 0; next < ways.land.places; next++) {
                int when = ways.soonByDepth[base + next];
                if ((calls >> next & 1) != 0 && when < ways.bestBack && when <= FAR) {
                    ways.order[depth] = next;
                    callOn(ways, depth + 1, next, when, calls & ~(1 << next));
                }
            }
        }

        /** The fewest PLACES, of as few the least bits, one of which is reached from each in n TURNS. */
        int fewestInns(int n) {
            for (int place = 0; place < land.places; place++) {
                spread(place, 0, 0);
                reach[place] = reachedBy(n);
            }
            int best = land.allPlaces();
            for (int those = 0; those < land.allPlaces(); those++) {
                if (Integer.bitCount(those) < Integer.bitCount(best) && serveAll(those)) {
                    best = those;
                }
            }
            return best;
        }

        private boolean serveAll(int those) {
            for (int place = 0; place < land.places; place++) {
                if ((reach[place] & those) == 0) {
                    return false;
                }
            }
            return true;
        }
    }

    /** Marks, and the single ROUNDS by which they are so. */
    private static final class Marks {
        static final int MOST_MARKS = 10;
        static final int MOST_LOOKS = 24;
        static final int MOST_LONG = 24;
        static final int MOST_HIGH = 40;

        final int[] times = new int[MOST_MARKS];
        final int[] levels = new int[MOST_MARKS];
        int many = 0;
        /** By time looked at: the LEVELS that fitting ROUNDS tell, as bits. */
        final long[] seen = new long[MOST_LOOKS];
        int leastLong = 0;
        int leastHigh = 0;
        int leastOn = 0;

        static boolean isError(int e) {
            return e >= 0 && e <= 20;
        }

        static boolean isTime(int t) {
            return t >= 0 && t <= 999;
        }

        boolean put(int t, int v) {
            if (!isTime(t) || v < 0 || v > 180 || many >= MOST_MARKS) {
                return false;
            }
            times[many] = t;
            levels[many] = v;
            many++;
            return true;
        }

        /** How many ROUNDS fit; notes the least, and what they tell for some times from one on. */
        int search(int e, int from, int looks) {
            Arrays.fill(seen, 0L);
            int fitting = 0;
            for (int length = 2; length <= MOST_LONG; length++) {
                for (int high = 0; high <= MOST_HIGH; high++) {
                    for (int on = 0; on < length; on++) {
                        if (!suits(e, length, high, on)) {
                            continue;
                        }
                        if (fitting == 0) {
                            leastLong = length;
                            leastHigh = high;
                            leastOn = on;
                        }
                        fitting++;
                        for (int k = 0; k < looks && k < MOST_LOOKS; k++) {
                            seen[k] |= 1L << Tide.ofRound(from + k, length, high, on);
                        }
                    }
                }
            }
            return fitting;
        }

        private boolean suits(int e, int length, int high, int on) {
            for (int i = 0; i < many; i++) {
                if (Math.abs(Tide.ofRound(times[i], length, high, on) - levels[i]) > e) {
                    return false;
                }
            }
            return true;
        }
    }
}
