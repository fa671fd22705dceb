import java.util.Arrays;

/** A field of turnips that rise, a very little, to squires; DOC.md tells in numbered promises what each call does. */
public final class TurnipSquires {
    public static final int NONE = -1000000, BAD = -1000001, STATE = -1000002, FULL = -1000003;

    private static final int FOUND = -1000010;
    private static final int NULL = 1, PLACE = 2, KIND = 3, SIZE = 4, STORE = 5;
    private static final int UNREAD = -1000100;

    private static final int ROWS = 8, ITEMS = 40, BYTES = 90, LEFT = 16;
    private static final int TURNIPS = 7, TOP = 9, NOBODY = -1;
    private static final int ACTS = 24, IMAGES = 2, LAST_YEAR = 9999;
    private static final int FAR = 60, CHANCES = 8;
    private static final int PLAIN = 1, OLD = 2, PURPLE = 3, FELLOW = 4, SON = 5;

    private final Row[] rows = new Row[ROWS];
    private final Tape tape = new Tape();
    private final Trace left = new Trace();
    private final Kind[] kinds = new Kind[SON + 1];
    private final Field[] acts = new Field[ACTS];
    private final Field[] images = new Field[IMAGES];
    private final Field now, draft;
    private final Seer seer;
    private int finding, latestFault, nextAct, actsKept;

    public TurnipSquires() {
        Kind plain = new Plain(PLAIN);
        // There is no turnip of kind 0 alone; the place is filled so that no reference in the table is null.
        kinds[0] = plain;
        kinds[PLAIN] = plain;
        kinds[OLD] = new Old(OLD);
        kinds[PURPLE] = new Purple(PURPLE);
        kinds[FELLOW] = new Fellow(FELLOW);
        kinds[SON] = new Son(SON);
        for (int i = 0; i < ROWS; i++) {
            rows[i] = new Row();
        }
        for (int i = 0; i < ACTS; i++) {
            acts[i] = new Field(plain);
        }
        for (int i = 0; i < IMAGES; i++) {
            images[i] = new Field(plain);
        }
        now = new Field(plain);
        draft = new Field(plain);
        seer = new Seer(now, kinds);
    }

    // ---- rows

    public int row(int row, int lane, int n) {
        if (!isRow(row) || outside(lane, 0, 2) || n > ITEMS) {
            return BAD;
        }
        if (n < 0) {
            return found(SIZE);
        }
        rows[row].begin(lane, n);
        return fine(n);
    }

    public int set(int row, int i, int v) {
        if (!isRow(row)) {
            return BAD;
        }
        Row r = rows[row];
        if (!r.there) {
            return found(NULL);
        }
        if (!r.has(i, 1)) {
            return found(PLACE);
        }
        r.items[i] = r.narrowed(v);
        return fine(r.items[i]);
    }

    public int copy(int a, int i, int b, int j, int n) {
        if (!isRow(a) || !isRow(b)) {
            return BAD;
        }
        Row from = rows[a];
        Row to = rows[b];
        if (!from.there || !to.there) {
            return found(NULL);
        }
        if (from.lane != to.lane) {
            return found(STORE);
        }
        if (!from.has(i, n) || !to.has(j, n)) {
            return found(PLACE);
        }
        System.arraycopy(from.items, i, to.items, j, n);
        return fine(n);
    }

    public int drop(int row) {
        if (!isRow(row)) {
            return BAD;
        }
        Row r = rows[row];
        if (!r.there) {
            return found(NULL);
        }
        r.there = false;
        return fine(r.size);
    }

    // ---- fields, acts

    public int feed(int letter) {
        if (outside(letter, 0, 255)) {
            return BAD;
        }
        return tape.add(letter) ? tape.size : FULL;
    }

    public int field() {
        boolean read = tape.readInto(draft, kinds);
        tape.size = 0;
        if (!read) {
            latestFault = tape.fault;
            return UNREAD - tape.at;
        }
        now.become(draft);
        actsKept = 0;
        return now.count;
    }

    public int fault() {
        return latestFault;
    }

    public int years(int n) {
        if (now.count == 0) {
            return STATE;
        }
        if (outside(n, 1, 24)) {
            return BAD;
        }
        if (now.year + n > LAST_YEAR) {
            return FULL;
        }
        for (int i = 0; i < n; i++) {
            keepAct();
            now.pass(now.hasFrost());
        }
        return now.allRanks();
    }

    public int marry(int one, int other) {
        if (!isTurnip(one) || !isTurnip(other) || one == other) {
            return BAD;
        }
        if (now.mate[one] != NOBODY || now.mate[other] != NOBODY) {
            return STATE;
        }
        keepAct();
        now.mate[one] = other;
        now.mate[other] = one;
        return now.allMarried();
    }

    public int part(int turnip) {
        if (!isTurnip(turnip)) {
            return BAD;
        }
        int other = now.mate[turnip];
        if (!isTurnip(other)) {
            return STATE;
        }
        keepAct();
        now.mate[turnip] = NOBODY;
        now.mate[other] = NOBODY;
        return other;
    }

    public int swap(int one, int other) {
        if (!isTurnip(one) || !isTurnip(other) || one == other) {
            return BAD;
        }
        keepAct();
        now.exchange(one, other);
        return now.place[one];
    }

    public int lean(int turnip) {
        if (!isTurnip(turnip)) {
            return BAD;
        }
        keepAct();
        now.lean[turnip] = 1 - now.lean[turnip];
        return now.lean[turnip];
    }

    public int ground(int v) {
        if (now.count == 0) {
            return STATE;
        }
        if (outside(v, 1, 9)) {
            return BAD;
        }
        keepAct();
        int before = now.ground;
        now.ground = v;
        return before;
    }

    public int undo() {
        if (actsKept == 0) {
            return STATE;
        }
        actsKept--;
        nextAct = (nextAct + ACTS - 1) % ACTS;
        now.become(acts[nextAct]);
        return actsKept;
    }

    public int turnip(int turnip, int what) {
        if (!isTurnip(turnip)) {
            return BAD;
        }
        switch (what) {
            case 0:
                return now.rank[turnip];
            case 1:
                return now.grown[turnip];
            case 2:
                return now.place[turnip];
            case 3:
                return now.lean[turnip];
            case 4:
                return mateToTell(now.mate[turnip]);
            case 5:
                now.findGains(now.hasFrost());
                return now.gain[turnip];
            default:
                return BAD;
        }
    }

    public int place(int place) {
        // There are as many places as turnips, numbered alike.
        return isTurnip(place) ? now.at[place] : BAD;
    }

    // ---- foretold

    public int ahead(int turnip, int d, int what) {
        if (!isTurnip(turnip) || outside(d, 0, FAR) || outside(what, 0, 1)) {
            return BAD;
        }
        Field then = seer.afterYears(d);
        return what == 0 ? then.rank[turnip] : then.grown[turnip];
    }

    public int risen(int turnip, int r) {
        if (!isTurnip(turnip) || outside(r, 0, TOP)) {
            return BAD;
        }
        return seer.yearsUntil(turnip, r);
    }

    public int squire(int what) {
        if (now.count == 0) {
            return STATE;
        }
        if (outside(what, 0, 1)) {
            return BAD;
        }
        int first = seer.firstSquire();
        if (first == NOBODY) {
            return NONE;
        }
        return what == 0 ? first : seer.squireYears;
    }

    public int pairs(int n, int turnip) {
        if (now.count == 0) {
            return STATE;
        }
        if (outside(n, 1, 20) || turnip != -1 && !isTurnip(turnip)) {
            return BAD;
        }
        seer.findBestPairs(n);
        return turnip == -1 ? seer.mostRanks : mateToTell(seer.bestMates[turnip]);
    }

    public int change(int n, int what) {
        if (now.count == 0) {
            return STATE;
        }
        if (outside(n, 1, 30) || outside(what, 0, 1)) {
            return BAD;
        }
        if (now.count < 2) {
            return NONE;
        }
        int pair = seer.bestChange(n);
        return what == 0 ? pair : seer.mostRanks;
    }

    public int power(int turnip) {
        return isTurnip(turnip) ? now.turnedBy(turnip) : BAD;
    }

    public int blocs(int what) {
        if (now.count == 0) {
            return STATE;
        }
        if (outside(what, 0, 1)) {
            return BAD;
        }
        int set = now.leastBloc();
        if (set == 0) {
            return NONE;
        }
        return what == 0 ? Integer.bitCount(set) : set;
    }

    public int fits(int turnip, int row, int i, int n, int what) {
        if (!isTurnip(turnip) || !isRow(row) || outside(n, 1, 12) || outside(what, 0, 3)) {
            return BAD;
        }
        Row r = rows[row];
        if (!r.there) {
            return found(NULL);
        }
        if (!r.has(i, n)) {
            return found(PLACE);
        }
        return fine(seer.allFitting(turnip, r, i, n, what));
    }

    public int chance(int turnip, int r, int n, int c, int what) {
        if (!isTurnip(turnip) || outside(r, 0, TOP) || outside(n, 0, CHANCES) || outside(c, 0, 10)
                || outside(what, 0, 1)) {
            return BAD;
        }
        int above = seer.waysToRise(turnip, r, n, c);
        int below = 1;
        for (int i = 0; i < n; i++) {
            below *= 10;
        }
        // Below the line stand n twos and n fives and nothing else, so these alone can be cut.
        for (int i = 0; i < n; i++) {
            if (above % 2 == 0) {
                above /= 2;
                below /= 2;
            }
            if (above % 5 == 0) {
                above /= 5;
                below /= 5;
            }
        }
        return what == 0 ? above : below;
    }

    public int drawn(int n, int seed, int what) {
        if (now.count == 0) {
            return STATE;
        }
        if (outside(n, 0, FAR) || outside(seed, 1, 999999) || outside(what, 0, 1)) {
            return BAD;
        }
        Field then = seer.century(n, seed);
        return what == 0 ? then.allRanks() : then.allGrown();
    }

    public int image(int k) {
        if (outside(k, 0, IMAGES - 1)) {
            return BAD;
        }
        if (now.count == 0) {
            return STATE;
        }
        images[k].become(now);
        return 1;
    }

    public int restore(int k) {
        if (outside(k, 0, IMAGES - 1)) {
            return BAD;
        }
        if (images[k].count == 0) {
            return STATE;
        }
        now.become(images[k]);
        actsKept = 0;
        return 1;
    }

    // ---- asked

    public int kind(int turnip) {
        return isTurnip(turnip) ? now.kind[turnip].number : BAD;
    }

    public int as(int turnip, int kind) {
        if (!isTurnip(turnip) || outside(kind, 0, SON)) {
            return BAD;
        }
        return now.kind[turnip].isA(kind) ? fine(turnip) : found(KIND);
    }

    public int ask(int turnip, int what) {
        if (!isTurnip(turnip) || outside(what, 0, 1)) {
            return BAD;
        }
        left.size = 0;
        Kind k = now.kind[turnip];
        return what == 0 ? k.size(now, turnip, left) : k.mark(now, turnip, left);
    }

    public int trace(int i) {
        return i >= 0 && i < left.size ? left.numbers[i] : NONE;
    }

    public int count(int what) {
        switch (what) {
            case 0:
                return rowsThere();
            case 1:
                return now.count;
            case 2:
                return now.year;
            case 3:
                return now.ground;
            case 4:
                return now.frost;
            case 5:
                return now.allRanks();
            case 6:
                return now.allMarried();
            case 7:
                return actsKept;
            case 8:
                return tape.size;
            default:
                return BAD;
        }
    }

    public int status() {
        return finding;
    }

    private static boolean outside(int v, int least, int most) {
        return v < least || v > most;
    }

    private static int mateToTell(int mate) {
        return mate == NOBODY ? NONE : mate;
    }

    private static boolean isRow(int row) {
        return row >= 0 && row < ROWS;
    }

    private boolean isTurnip(int turnip) {
        return turnip >= 0 && turnip < now.count;
    }

    private int found(int number) {
        finding = number;
        return FOUND - number;
    }

    private int fine(int answer) {
        finding = 0;
        return answer;
    }

    private int rowsThere() {
        int there = 0;
        for (int i = 0; i < ROWS; i++) {
            if (rows[i].there) {
                there++;
            }
        }
        return there;
    }

    /** Keeps the field as it is ahead of an act; of too many acts the oldest one's place is used again. */
    private void keepAct() {
        acts[nextAct].become(now);
        nextAct = (nextAct + 1) % ACTS;
        actsKept = Math.min(actsKept + 1, ACTS);
    }

    /** One of the rows; its items are made once, for the most that it can have. */
    private static final class Row {
        final int[] items = new int[ITEMS];
        boolean there;
        int lane, size;

        void begin(int newLane, int n) {
            there = true;
            lane = newLane;
            size = n;
            Arrays.fill(items, 0);
        }

        /** Whether n items from i on are its own; no sum is made, for that could wrap around. */
        boolean has(int i, int n) {
            return i >= 0 && n >= 0 && i <= size && n <= size - i;
        }

        int narrowed(int v) {
            switch (lane) {
                case 0:
                    return (byte) v;
                case 1:
                    return (short) v;
                default:
                    return v;
            }
        }
    }

    /** The bytes of a text, and their reading; behind a fault, fault is its number and at its place. */
    private static final class Tape {
        final int[] bytes = new int[BYTES];
        int size, at, fault;
        private int number;

        boolean add(int letter) {
            if (size >= BYTES) {
                return false;
            }
            bytes[size] = letter;
            size++;
            return true;
        }

        boolean readInto(Field f, Kind[] kinds) {
            at = 0;
            f.begin();
            // One turnip is read even if nothing is there, so that its lack is told as a fault at the end.
            boolean fine = readLaw(f) && readTurnip(f, kinds);
            for (int i = 0; fine && at < size && i < BYTES; i++) {
                fine = readTurnip(f, kinds);
            }
            return fine;
        }

        private boolean readLaw(Field f) {
            if (!readSign('g') || !readNumber(1, 9)) {
                return false;
            }
            f.ground = number;
            if (!readSign(',') || !readNumber(0, 15)) {
                return false;
            }
            f.frost = number;
            return readSign(';');
        }

        private boolean readTurnip(Field f, Kind[] kinds) {
            int sort = sortOf(byteAt(at));
            if (sort < 0 || sort >= kinds.length) {
                return failed(1);
            }
            int t = f.count;
            if (t >= TURNIPS) {
                return failed(3);
            }
            at++;
            f.kind[t] = kinds[sort];
            if (!readNumber(0, 9)) {
                return false;
            }
            f.rank[t] = number;
            if (!readSign(',') || !readNumber(0, 9)) {
                return false;
            }
            f.grown[t] = number;
            if (!readSign(',') || !readNumber(0, 1)) {
                return false;
            }
            f.lean[t] = number;
            f.count++;
            return readSign(';');
        }

        private boolean readSign(int sign) {
            if (byteAt(at) != sign) {
                return failed(1);
            }
            at++;
            return true;
        }

        /** Reads a run of figures from its first one on; a run of three is no token at all. */
        private boolean readNumber(int least, int most) {
            int figures = 0;
            int value = 0;
            while (figures < 3 && isFigure(byteAt(at + figures))) {
                value = 10 * value + byteAt(at + figures) - '0';
                figures++;
            }
            if (figures == 0 || figures > 2) {
                return failed(1);
            }
            if (outside(value, least, most)) {
                return failed(2);
            }
            number = value;
            at += figures;
            return true;
        }

        private boolean failed(int withFault) {
            fault = withFault;
            return false;
        }

        private int byteAt(int i) {
            return i >= 0 && i < size ? bytes[i] : -1;
        }

        private static boolean isFigure(int letter) {
            return letter >= '0' && letter <= '9';
        }

        private static int sortOf(int letter) {
            switch (letter) {
                case 't':
                    return PLAIN;
                case 'o':
                    return OLD;
                case 'p':
                    return PURPLE;
                case 'f':
                    return FELLOW;
                case 's':
                    return SON;
                default:
                    return -1;
            }
        }
    }

    /** The numbers of the bodies that have begun since an ask, the first of them. */
    private static final class Trace {
        final int[] numbers = new int[LEFT];
        int size;

        void leave(int body) {
            if (size < LEFT) {
                numbers[size] = body;
                size++;
            }
        }
    }

    /** How a turnip of a kind rises and answers; what it has stands in the field, so one object does for all. */
    private abstract static class Kind {
        final int number;

        Kind(int number) {
            this.number = number;
        }

        /** What it would gain by itself, neither married nor leaning. */
        abstract int gainIn(Field f, int t, boolean frost);

        boolean isA(int wanted) {
            switch (wanted) {
                case PLAIN:
                    return this instanceof Plain;
                case OLD:
                    return this instanceof Old;
                case PURPLE:
                    return this instanceof Purple;
                case FELLOW:
                    return this instanceof Fellow;
                case SON:
                    return this instanceof Son;
                default:
                    return wanted == 0;
            }
        }

        int size(Field f, int t, Trace left) {
            left.leave(10);
            return f.rank[t];
        }

        int mark(Field f, int t, Trace left) {
            left.leave(20);
            return t;
        }
    }

    private static class Plain extends Kind {
        Plain(int number) {
            super(number);
        }

        int gainIn(Field f, int t, boolean frost) {
            return f.ground;
        }

        int size(Field f, int t, Trace left) {
            left.leave(11);
            int lent = super.size(f, t, left);
            return lent + mark(f, t, left);
        }

        int mark(Field f, int t, Trace left) {
            left.leave(21);
            return super.mark(f, t, left) + f.place[t];
        }
    }

    private static final class Old extends Plain {
        Old(int number) {
            super(number);
        }

        int gainIn(Field f, int t, boolean frost) {
            return frost ? f.ground : f.ground / 2;
        }

        int size(Field f, int t, Trace left) {
            left.leave(12);
            return -super.size(f, t, left);
        }

        int mark(Field f, int t, Trace left) {
            left.leave(24);
            return 2 * super.mark(f, t, left);
        }
    }

    private static final class Purple extends Plain {
        Purple(int number) {
            super(number);
        }

        int gainIn(Field f, int t, boolean frost) {
            return f.ground + Integer.bitCount(f.higher[t]);
        }

        int mark(Field f, int t, Trace left) {
            left.leave(22);
            return super.mark(f, t, left) - 1000;
        }
    }

    private static class Fellow extends Kind {
        Fellow(int number) {
            super(number);
        }

        int gainIn(Field f, int t, boolean frost) {
            return f.rank[t] < 3 ? 2 * f.ground : 0;
        }

        int size(Field f, int t, Trace left) {
            left.leave(13);
            return super.size(f, t, left) - 100;
        }

        int mark(Field f, int t, Trace left) {
            left.leave(23);
            int lent = super.mark(f, t, left);
            return lent - size(f, t, left);
        }
    }

    private static final class Son extends Fellow {
        Son(int number) {
            super(number);
        }

        int gainIn(Field f, int t, boolean frost) {
            return f.higher[t] != 0 ? 2 * f.ground : super.gainIn(f, t, frost);
        }

        int size(Field f, int t, Trace left) {
            left.leave(14);
            return 2 * super.size(f, t, left);
        }
    }

    /** All that a field is at one time; count is 0 where there is none. */
    private static final class Field {
        final Kind[] kind = new Kind[TURNIPS];
        final int[] rank = new int[TURNIPS];
        final int[] grown = new int[TURNIPS];
        final int[] lean = new int[TURNIPS];
        final int[] mate = new int[TURNIPS];
        final int[] place = new int[TURNIPS];
        /** The turnip in a place: place, read the other way. */
        final int[] at = new int[TURNIPS];
        // What findGains found last stands in these two: no part of what is kept.
        final int[] gain = new int[TURNIPS];
        /** On which hands of a turnip one of a higher rank stands: bit 0 down, bit 1 up, as lean tells them. */
        final int[] higher = new int[TURNIPS];
        int count, year, ground, frost;

        /** The kind stands for every turnip until others are read, so that none is ever null. */
        Field(Kind plain) {
            for (int t = 0; t < TURNIPS; t++) {
                kind[t] = plain;
            }
        }

        void begin() {
            count = 0;
            year = 0;
            for (int t = 0; t < TURNIPS; t++) {
                mate[t] = NOBODY;
                place[t] = t;
                at[t] = t;
            }
        }

        void become(Field other) {
            count = other.count;
            year = other.year;
            ground = other.ground;
            frost = other.frost;
            for (int t = 0; t < TURNIPS; t++) {
                kind[t] = other.kind[t];
            }
            System.arraycopy(other.rank, 0, rank, 0, TURNIPS);
            System.arraycopy(other.grown, 0, grown, 0, TURNIPS);
            System.arraycopy(other.lean, 0, lean, 0, TURNIPS);
            System.arraycopy(other.mate, 0, mate, 0, TURNIPS);
            System.arraycopy(other.place, 0, place, 0, TURNIPS);
            System.arraycopy(other.at, 0, at, 0, TURNIPS);
        }

        boolean hasFrost() {
            return (frost >> (year & 3) & 1) == 1;
        }

        /** A year, with frost or without; all gains are found before any turnip rises. */
        void pass(boolean withFrost) {
            findGains(withFrost);
            for (int t = 0; t < count; t++) {
                int more = grown[t] + gain[t];
                int r = rank[t];
                while (more >= 10 && r < TOP) {
                    more -= 10;
                    r++;
                }
                rank[t] = r;
                grown[t] = r == TOP ? Math.min(more, 9) : more;
            }
            year++;
        }

        void findGains(boolean withFrost) {
            findHigher();
            for (int t = 0; t < count; t++) {
                gain[t] = kind[t].gainIn(this, t, withFrost);
            }
            for (int t = 0; t < count; t++) {
                int other = mate[t];
                if (other > t && other < count) {
                    int half = (gain[t] + gain[other]) / 2;
                    gain[t] = half;
                    gain[other] = half;
                }
            }
            for (int t = 0; t < count; t++) {
                gain[t] += higher[t] >> lean[t] & 1;
            }
        }

        private void findHigher() {
            for (int t = 0; t < count; t++) {
                higher[t] = 0;
            }
            for (int p = 0; p + 1 < count; p++) {
                int one = at[p];
                int next = at[p + 1];
                if (rank[one] > rank[next]) {
                    higher[next] |= 1;
                }
                if (rank[next] > rank[one]) {
                    higher[one] |= 2;
                }
            }
        }

        void exchange(int one, int other) {
            int before = place[one];
            place[one] = place[other];
            place[other] = before;
            at[place[one]] = one;
            at[place[other]] = other;
        }

        int allRanks() {
            return votesOf((1 << count) - 1);
        }

        int allGrown() {
            int all = 0;
            for (int t = 0; t < count; t++) {
                all += grown[t];
            }
            return all;
        }

        int allMarried() {
            int all = 0;
            for (int t = 0; t < count; t++) {
                if (mate[t] != NOBODY) {
                    all++;
                }
            }
            return all;
        }

        int votesOf(int set) {
            int votes = 0;
            for (int t = 0; t < count; t++) {
                if ((set >> t & 1) == 1) {
                    votes += rank[t];
                }
            }
            return votes;
        }

        int turnedBy(int turnip) {
            int all = allRanks();
            int turned = 0;
            for (int set = 0; set < 1 << count; set++) {
                int votes = votesOf(set);
                if ((set >> turnip & 1) == 0 && 2 * votes <= all && 2 * (votes + rank[turnip]) > all) {
                    turned++;
                }
            }
            return turned;
        }

        /** The least of the smallest sets that win; 0 if none does. */
        int leastBloc() {
            int all = allRanks();
            int best = 0;
            for (int set = 1; set < 1 << count; set++) {
                boolean smaller = best == 0 || Integer.bitCount(set) < Integer.bitCount(best);
                if (smaller && 2 * votesOf(set) > all) {
                    best = set;
                }
            }
            return best;
        }
    }

    /** Foretells what becomes of the field that is, in fields of its own. */
    private static final class Seer {
        private final Field now;
        private final Kind[] kinds;
        /** Field i of these has i years of chance behind it yet; the last one serves all else. */
        private final Field[] trials = new Field[CHANCES + 1];
        private final Field trial;
        private final int[] mates = new int[TURNIPS];
        final int[] bestMates = new int[TURNIPS];
        int mostRanks, squireYears;

        Seer(Field now, Kind[] kinds) {
            this.now = now;
            this.kinds = kinds;
            for (int i = 0; i <= CHANCES; i++) {
                trials[i] = new Field(kinds[PLAIN]);
            }
            trial = trials[CHANCES];
        }

        Field afterYears(int n) {
            trial.become(now);
            for (int i = 0; i < n; i++) {
                trial.pass(trial.hasFrost());
            }
            return trial;
        }

        int yearsUntil(int turnip, int r) {
            trial.become(now);
            for (int i = 0; i <= FAR; i++) {
                if (trial.rank[turnip] >= r) {
                    return i;
                }
                trial.pass(trial.hasFrost());
            }
            return NONE;
        }

        /** Who it is, or nobody; squireYears tells when. */
        int firstSquire() {
            trial.become(now);
            for (int i = 0; i <= FAR; i++) {
                for (int t = 0; t < trial.count; t++) {
                    if (trial.rank[t] == TOP) {
                        squireYears = i;
                        return t;
                    }
                }
                trial.pass(trial.hasFrost());
            }
            return NOBODY;
        }

        /** The ways of the best stay in bestMates; mostRanks tells how much comes of them. */
        void findBestPairs(int n) {
            Arrays.fill(mates, NOBODY);
            mostRanks = -1;
            tryPairs(0, n);
        }

        /**
         * Marries those from a turnip on in every way, in the order in which the first of the best counts;
         * it goes no deeper than there are turnips.
         */
        private void tryPairs(int from, int n) {
            if (from >= now.count || from >= TURNIPS) {
                weighPairs(n);
                return;
            }
            tryPairs(from + 1, n);
            if (mates[from] != NOBODY) {
                return;
            }
            for (int other = from + 1; other < now.count; other++) {
                if (mates[other] == NOBODY) {
                    mates[from] = other;
                    mates[other] = from;
                    tryPairs(from + 1, n);
                    mates[from] = NOBODY;
                    mates[other] = NOBODY;
                }
            }
        }

        private void weighPairs(int n) {
            trial.become(now);
            System.arraycopy(mates, 0, trial.mate, 0, TURNIPS);
            for (int i = 0; i < n; i++) {
                trial.pass(trial.hasFrost());
            }
            int ranks = trial.allRanks();
            if (ranks > mostRanks) {
                mostRanks = ranks;
                System.arraycopy(mates, 0, bestMates, 0, TURNIPS);
            }
        }

        /** The pair, told as one number; mostRanks tells how much comes of it. */
        int bestChange(int n) {
            int best = 0;
            mostRanks = -1;
            for (int one = 0; one < now.count; one++) {
                for (int other = one + 1; other < now.count; other++) {
                    trial.become(now);
                    trial.exchange(one, other);
                    for (int i = 0; i < n; i++) {
                        trial.pass(trial.hasFrost());
                    }
                    int ranks = trial.allRanks();
                    if (ranks > mostRanks) {
                        mostRanks = ranks;
                        best = 10 * one + other;
                    }
                }
            }
            return best;
        }

        int allFitting(int turnip, Row r, int i, int n, int what) {
            int least = what == 0 || what == 2 ? 1 : 0;
            int most = what == 0 ? SON : what == 3 ? 15 : 9;
            int bits = 0;
            for (int v = least; v <= most; v++) {
                trial.become(now);
                suppose(turnip, what, v);
                if (isTold(turnip, r, i, n)) {
                    bits |= 1 << v;
                }
            }
            return bits;
        }

        private void suppose(int turnip, int what, int v) {
            switch (what) {
                case 0:
                    if (v >= 0 && v < kinds.length) {
                        trial.kind[turnip] = kinds[v];
                    }
                    break;
                case 1:
                    trial.grown[turnip] = v;
                    break;
                case 2:
                    trial.ground = v;
                    break;
                default:
                    trial.frost = v;
            }
        }

        /** Whether the trial, gone on with, has the ranks that the row tells. */
        private boolean isTold(int turnip, Row r, int i, int n) {
            for (int k = i; k < i + n && k < ITEMS; k++) {
                trial.pass(trial.hasFrost());
                if (trial.rank[turnip] != r.items[k]) {
                    return false;
                }
            }
            return true;
        }

        /** Of the ten to the power of n ways that n years can go, how many bring the rank. */
        int waysToRise(int turnip, int r, int n, int c) {
            if (n < 0 || n > CHANCES) {
                return 0;
            }
            trials[n].become(now);
            return waysFrom(turnip, r, n, c);
        }

        private int waysFrom(int turnip, int r, int n, int c) {
            if (n <= 0 || n > CHANCES) {
                return trials[0].rank[turnip] >= r ? 1 : 0;
            }
            int ways = 0;
            if (c > 0) {
                trials[n - 1].become(trials[n]);
                trials[n - 1].pass(true);
                ways += c * waysFrom(turnip, r, n - 1, c);
            }
            if (c < 10) {
                trials[n - 1].become(trials[n]);
                trials[n - 1].pass(false);
                ways += (10 - c) * waysFrom(turnip, r, n - 1, c);
            }
            return ways;
        }

        Field century(int n, int seed) {
            trial.become(now);
            int turnips = trial.count;
            long x = seed;
            for (int i = 0; i < n && turnips > 0; i++) {
                x = x * 16807 % 2147483647;
                trial.ground = 1 + (int) (x % 9);
                int one = (int) (x % turnips);
                int other = (int) (x / 2 % turnips);
                if (x % 3 == 0) {
                    trial.exchange(one, other);
                }
                trial.pass(trial.hasFrost());
            }
            return trial;
        }
    }
}
