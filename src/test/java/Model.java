import java.math.BigInteger;
import java.util.ArrayDeque;
import java.util.ArrayList;
import java.util.Arrays;
import java.util.Deque;
import java.util.List;

/** The document once more, in another way: turnips as objects, slow and with copies of all. */
final class Model {
    private static final int NONE = -1000000, BAD = -1000001, STATE = -1000002, FULL = -1000003;

    private static final class Turnip {
        String sort = "";
        int rank, grown, lean, place;
        int mate = -1;

        Turnip twin() {
            Turnip t = new Turnip();
            t.sort = sort;
            t.rank = rank;
            t.grown = grown;
            t.lean = lean;
            t.place = place;
            t.mate = mate;
            return t;
        }

        int kind() {
            return 1 + "topfs".indexOf(sort);
        }
    }

    private static final class Ground {
        final List<Turnip> all = new ArrayList<>();
        int year, v, frost;

        Ground twin() {
            Ground g = new Ground();
            for (Turnip t : all) {
                g.all.add(t.twin());
            }
            g.year = year;
            g.v = v;
            g.frost = frost;
            return g;
        }

        Turnip inPlace(int place) {
            return all.stream().filter(t -> t.place == place).findFirst().orElse(null);
        }

        private int above(Turnip t, int place) {
            Turnip other = inPlace(place);
            return other != null && other.rank > t.rank ? 1 : 0;
        }

        boolean frosty() {
            return BigInteger.valueOf(frost).testBit(year % 4);
        }

        private int single(Turnip t, boolean cold) {
            int beside = above(t, t.place - 1) + above(t, t.place + 1);
            if (t.sort.equals("t")) {
                return v;
            } else if (t.sort.equals("o")) {
                return cold ? v : v / 2;
            } else if (t.sort.equals("p")) {
                return v + beside;
            } else if (t.rank < 3 || t.sort.equals("s") && beside > 0) {
                return v + v;
            }
            return 0;
        }

        int gain(Turnip t, boolean cold) {
            int gain = single(t, cold);
            if (t.mate >= 0) {
                gain = (gain + single(all.get(t.mate), cold)) / 2;
            }
            return gain + above(t, t.lean == 0 ? t.place - 1 : t.place + 1);
        }

        Ground next(boolean cold) {
            Ground g = twin();
            for (int i = 0; i < all.size(); i++) {
                int points = 10 * all.get(i).rank + all.get(i).grown + gain(all.get(i), cold);
                points = Math.min(points, 99);
                g.all.get(i).rank = points / 10;
                g.all.get(i).grown = points % 10;
            }
            g.year = year + 1;
            return g;
        }

        Ground after(int n) {
            Ground g = this;
            for (int i = 0; i < n; i++) {
                g = g.next(g.frosty());
            }
            return g;
        }

        void swapPlaces(int a, int b) {
            int before = all.get(a).place;
            all.get(a).place = all.get(b).place;
            all.get(b).place = before;
        }

        int ranks() {
            return all.stream().mapToInt(t -> t.rank).sum();
        }

        int married() {
            return (int) all.stream().filter(t -> t.mate >= 0).count();
        }
    }

    private final int[][] rows = new int[8][];
    private final int[] lanes = new int[8];
    private final Ground[] images = new Ground[2];
    private final Deque<Ground> acts = new ArrayDeque<>();
    private final StringBuilder tape = new StringBuilder();
    private List<Integer> trace = new ArrayList<>();
    private Ground f = new Ground();
    private int fault, status;

    private static boolean in(int v, int least, int most) {
        return least <= v && v <= most;
    }

    private boolean has(int t) {
        return in(t, 0, f.all.size() - 1);
    }

    private boolean bare() {
        return f.all.isEmpty();
    }

    private int end(int finding, int answer) {
        status = finding;
        return finding == 0 ? answer : -1000010 - finding;
    }

    private void act() {
        acts.addLast(f.twin());
        if (acts.size() > 24) {
            acts.removeFirst();
        }
    }

    int answer(String call, int[] a) {
        switch (call) {
            case "row": return row(a[0], a[1], a[2]);
            case "set": return set(a[0], a[1], a[2]);
            case "copy": return copy(a[0], a[1], a[2], a[3], a[4]);
            case "drop": return drop(a[0]);
            case "feed": return feed(a[0]);
            case "field": return field();
            case "fault": return fault;
            case "years": return years(a[0]);
            case "marry": return marry(a[0], a[1]);
            case "part": return part(a[0]);
            case "swap": return swap(a[0], a[1]);
            case "lean": return lean(a[0]);
            case "ground": return ground(a[0]);
            case "undo": return undo();
            case "turnip": return turnip(a[0], a[1]);
            case "place": return has(a[0]) ? f.all.indexOf(f.inPlace(a[0])) : BAD;
            case "ahead": return ahead(a[0], a[1], a[2]);
            case "risen": return risen(a[0], a[1]);
            case "squire": return squire(a[0]);
            case "pairs": return pairs(a[0], a[1]);
            case "change": return change(a[0], a[1]);
            case "power": return power(a[0]);
            case "blocs": return blocs(a[0]);
            case "fits": return fits(a[0], a[1], a[2], a[3], a[4]);
            case "chance": return chance(a[0], a[1], a[2], a[3], a[4]);
            case "drawn": return drawn(a[0], a[1], a[2]);
            case "image": return image(a[0]);
            case "restore": return restore(a[0]);
            case "kind": return has(a[0]) ? f.all.get(a[0]).kind() : BAD;
            case "as": return as(a[0], a[1]);
            case "ask": return ask(a[0], a[1]);
            case "trace": return in(a[0], 0, trace.size() - 1) ? trace.get(a[0]) : NONE;
            case "count": return count(a[0]);
            case "status": return status;
            default: throw new IllegalArgumentException(call);
        }
    }

    private int row(int row, int lane, int n) {
        if (!in(row, 0, 7) || !in(lane, 0, 2) || n > 40) {
            return BAD;
        }
        if (n >= 0) {
            rows[row] = new int[n];
            lanes[row] = lane;
        }
        return end(n < 0 ? 4 : 0, n);
    }

    private int set(int row, int i, int v) {
        if (!in(row, 0, 7)) {
            return BAD;
        }
        if (rows[row] == null) {
            return end(1, 0);
        }
        if (!in(i, 0, rows[row].length - 1)) {
            return end(2, 0);
        }
        int bits = lanes[row] == 0 ? 24 : lanes[row] == 1 ? 16 : 0;
        rows[row][i] = v << bits >> bits;
        return end(0, rows[row][i]);
    }

    private int copy(int a, int i, int b, int j, int n) {
        if (!in(a, 0, 7) || !in(b, 0, 7)) {
            return BAD;
        }
        if (rows[a] == null || rows[b] == null) {
            return end(1, 0);
        }
        if (lanes[a] != lanes[b]) {
            return end(5, 0);
        }
        if (i < 0 || j < 0 || n < 0 || (long) i + n > rows[a].length || (long) j + n > rows[b].length) {
            return end(2, 0);
        }
        int[] before = rows[a].clone();
        for (int k = 0; k < n; k++) {
            rows[b][j + k] = before[i + k];
        }
        return end(0, n);
    }

    private int drop(int row) {
        if (!in(row, 0, 7)) {
            return BAD;
        }
        int[] gone = rows[row];
        rows[row] = null;
        return gone == null ? end(1, 0) : end(0, gone.length);
    }

    private int feed(int letter) {
        if (!in(letter, 0, 255)) {
            return BAD;
        }
        if (tape.length() == 90) {
            return FULL;
        }
        tape.append((char) letter);
        return tape.length();
    }

    /** The text is cut into tokens first; then each is held against the one thing that may stand there. */
    private int field() {
        String text = tape.toString();
        tape.setLength(0);
        List<String> tokens = new ArrayList<>();
        for (int i = 0; i < text.length(); i += tokens.get(tokens.size() - 1).length()) {
            int j = i;
            while (j < text.length() && text.charAt(j) >= '0' && text.charAt(j) <= '9') {
                j++;
            }
            tokens.add(text.substring(i, Math.max(j, i + 1)));
        }
        Ground g = new Ground();
        int at = 0;
        for (int k = 0; k < tokens.size(); k++) {
            int wrong = k < 5 ? lawFault(g, k, tokens.get(k)) : turnipFault(g, (k - 5) % 7, tokens.get(k));
            if (wrong != 0) {
                fault = wrong;
                return -1000100 - at;
            }
            at += tokens.get(k).length();
        }
        if (tokens.size() < 12 || (tokens.size() - 5) % 7 != 0) {
            fault = 1;
            return -1000100 - at;
        }
        f = g;
        acts.clear();
        return f.all.size();
    }

    private static int numberFault(String token, int least, int most) {
        if (!token.matches("[0-9]{1,2}")) {
            return 1;
        }
        return in(Integer.parseInt(token), least, most) ? 0 : 2;
    }

    private static int lawFault(Ground g, int k, String token) {
        int wrong = k == 1 ? numberFault(token, 1, 9) : k == 3 ? numberFault(token, 0, 15)
                : token.equals(k == 0 ? "g" : k == 2 ? "," : ";") ? 0 : 1;
        if (wrong == 0 && k == 1) {
            g.v = Integer.parseInt(token);
        } else if (wrong == 0 && k == 3) {
            g.frost = Integer.parseInt(token);
        }
        return wrong;
    }

    /** A turnip has seven tokens: t 1 , 5 , 1 ; by their number. */
    private static int turnipFault(Ground g, int k, String token) {
        if (k == 0) {
            if (!token.matches("[topfs]")) {
                return 1;
            }
            if (g.all.size() == 7) {
                return 3;
            }
            Turnip t = new Turnip();
            t.sort = token;
            t.place = g.all.size();
            g.all.add(t);
            return 0;
        }
        if (k % 2 == 0) {
            return token.equals(k == 6 ? ";" : ",") ? 0 : 1;
        }
        int wrong = numberFault(token, 0, k == 5 ? 1 : 9);
        if (wrong == 0) {
            Turnip t = g.all.get(g.all.size() - 1);
            int v = Integer.parseInt(token);
            t.rank = k == 1 ? v : t.rank;
            t.grown = k == 3 ? v : t.grown;
            t.lean = k == 5 ? v : t.lean;
        }
        return wrong;
    }

    private int years(int n) {
        if (bare()) {
            return STATE;
        }
        if (!in(n, 1, 24)) {
            return BAD;
        }
        if (f.year + n > 9999) {
            return FULL;
        }
        for (int i = 0; i < n; i++) {
            act();
            f = f.after(1);
        }
        return f.ranks();
    }

    private int marry(int a, int b) {
        if (!has(a) || !has(b) || a == b) {
            return BAD;
        }
        if (f.all.get(a).mate >= 0 || f.all.get(b).mate >= 0) {
            return STATE;
        }
        act();
        f.all.get(a).mate = b;
        f.all.get(b).mate = a;
        return f.married();
    }

    private int part(int t) {
        if (!has(t)) {
            return BAD;
        }
        int mate = f.all.get(t).mate;
        if (mate < 0) {
            return STATE;
        }
        act();
        f.all.get(t).mate = -1;
        f.all.get(mate).mate = -1;
        return mate;
    }

    private int swap(int a, int b) {
        if (!has(a) || !has(b) || a == b) {
            return BAD;
        }
        act();
        f.swapPlaces(a, b);
        return f.all.get(a).place;
    }

    private int lean(int t) {
        if (!has(t)) {
            return BAD;
        }
        act();
        return f.all.get(t).lean ^= 1;
    }

    private int ground(int v) {
        if (bare()) {
            return STATE;
        }
        if (!in(v, 1, 9)) {
            return BAD;
        }
        act();
        int before = f.v;
        f.v = v;
        return before;
    }

    private int undo() {
        if (acts.isEmpty()) {
            return STATE;
        }
        f = acts.removeLast();
        return acts.size();
    }

    private int turnip(int turnip, int what) {
        if (!has(turnip) || !in(what, 0, 5)) {
            return BAD;
        }
        Turnip t = f.all.get(turnip);
        return new int[] {t.rank, t.grown, t.place, t.lean, t.mate < 0 ? NONE : t.mate, f.gain(t, f.frosty())}[what];
    }

    private int ahead(int t, int d, int what) {
        if (!has(t) || !in(d, 0, 60) || !in(what, 0, 1)) {
            return BAD;
        }
        Turnip then = f.after(d).all.get(t);
        return what == 0 ? then.rank : then.grown;
    }

    private int risen(int t, int r) {
        if (!has(t) || !in(r, 0, 9)) {
            return BAD;
        }
        int d = 0;
        for (Ground g = f; d <= 60; g = g.after(1), d++) {
            if (g.all.get(t).rank >= r) {
                return d;
            }
        }
        return NONE;
    }

    private int squire(int what) {
        if (bare()) {
            return STATE;
        }
        if (!in(what, 0, 1)) {
            return BAD;
        }
        int who = NONE;
        int when = NONE;
        for (int t = f.all.size() - 1; t >= 0; t--) {
            int d = risen(t, 9);
            if (d != NONE && (when == NONE || d <= when)) {
                who = t;
                when = d;
            }
        }
        return what == 0 ? who : when;
    }

    private int pairs(int n, int t) {
        if (bare()) {
            return STATE;
        }
        if (!in(n, 1, 20) || t != -1 && !has(t)) {
            return BAD;
        }
        int best = -1;
        int[] mates = null;
        for (int[] way : ways(f.all.size())) {
            Ground g = f.twin();
            for (int i = 0; i < way.length; i++) {
                g.all.get(i).mate = way[i];
            }
            int ranks = g.after(n).ranks();
            // Of like ones the one that comes first by its mates, told as a text of figures: nobody is the least.
            if (ranks > best || ranks == best && Arrays.compare(way, mates) < 0) {
                best = ranks;
                mates = way;
            }
        }
        return t == -1 ? best : mates[t] < 0 ? NONE : mates[t];
    }

    /** All ways to marry so many, in no order that matters: the last one has nobody or one of the others. */
    private static List<int[]> ways(int n) {
        List<int[]> found = new ArrayList<>();
        if (n == 0) {
            found.add(new int[0]);
            return found;
        }
        for (int[] way : ways(n - 1)) {
            int[] more = Arrays.copyOf(way, n);
            more[n - 1] = -1;
            found.add(more);
            for (int i = 0; i < n - 1; i++) {
                if (way[i] < 0) {
                    int[] wed = more.clone();
                    wed[i] = n - 1;
                    wed[n - 1] = i;
                    found.add(wed);
                }
            }
        }
        return found;
    }

    private int change(int n, int what) {
        if (bare()) {
            return STATE;
        }
        if (!in(n, 1, 30) || !in(what, 0, 1)) {
            return BAD;
        }
        int best = NONE;
        int pair = NONE;
        for (int ab = 66; ab >= 1; ab--) {
            if (ab / 10 < ab % 10 && has(ab % 10)) {
                Ground g = f.twin();
                g.swapPlaces(ab / 10, ab % 10);
                int ranks = g.after(n).ranks();
                if (ranks >= best) {
                    best = ranks;
                    pair = ab;
                }
            }
        }
        return what == 0 ? pair : best;
    }

    private boolean wins(int set) {
        int votes = 0;
        for (int t = 0; t < f.all.size(); t++) {
            votes += (set & 1 << t) != 0 ? f.all.get(t).rank : 0;
        }
        return votes > f.ranks() / 2.0;
    }

    private int power(int t) {
        if (!has(t)) {
            return BAD;
        }
        int power = 0;
        for (int set = 0; set < 128; set++) {
            if ((set & 1 << t) == 0 && set < 1 << f.all.size() && !wins(set) && wins(set | 1 << t)) {
                power++;
            }
        }
        return power;
    }

    private int blocs(int what) {
        if (bare()) {
            return STATE;
        }
        if (!in(what, 0, 1)) {
            return BAD;
        }
        for (int size = 1; size <= f.all.size(); size++) {
            for (int set = 1; set < 1 << f.all.size(); set++) {
                if (Integer.bitCount(set) == size && wins(set)) {
                    return what == 0 ? size : set;
                }
            }
        }
        return NONE;
    }

    private int fits(int t, int row, int i, int n, int what) {
        if (!has(t) || !in(row, 0, 7) || !in(n, 1, 12) || !in(what, 0, 3)) {
            return BAD;
        }
        if (rows[row] == null) {
            return end(1, 0);
        }
        if (i < 0 || (long) i + n > rows[row].length) {
            return end(2, 0);
        }
        int bits = 0;
        for (int v = 0; v < 16; v++) {
            Ground g = f.twin();
            Turnip it = g.all.get(t);
            boolean could = what == 3;
            if (what == 0 && in(v, 1, 5)) {
                it.sort = "topfs".substring(v - 1, v);
                could = true;
            } else if (what == 1 && v < 10) {
                it.grown = v;
                could = true;
            } else if (what == 2 && in(v, 1, 9)) {
                g.v = v;
                could = true;
            } else if (what == 3) {
                g.frost = v;
            }
            for (int k = 1; could && k <= n; k++) {
                could = g.after(k).all.get(t).rank == rows[row][i + k - 1];
            }
            bits += could ? 1 << v : 0;
        }
        return end(0, bits);
    }

    private int chance(int t, int r, int n, int c, int what) {
        if (!has(t) || !in(r, 0, 9) || !in(n, 0, 8) || !in(c, 0, 10) || !in(what, 0, 1)) {
            return BAD;
        }
        BigInteger above = BigInteger.ZERO;
        for (int mask = 0; mask < 1 << n; mask++) {
            Ground g = f;
            BigInteger weight = BigInteger.ONE;
            for (int k = 0; k < n; k++) {
                boolean cold = (mask >> k & 1) == 1;
                g = g.next(cold);
                weight = weight.multiply(BigInteger.valueOf(cold ? c : 10 - c));
            }
            if (g.all.get(t).rank >= r) {
                above = above.add(weight);
            }
        }
        BigInteger below = BigInteger.TEN.pow(n);
        return (what == 0 ? above : below).divide(above.gcd(below)).intValueExact();
    }

    private int drawn(int n, int seed, int what) {
        if (bare()) {
            return STATE;
        }
        if (!in(n, 0, 60) || !in(seed, 1, 999999) || !in(what, 0, 1)) {
            return BAD;
        }
        BigInteger x = BigInteger.valueOf(seed);
        Ground g = f.twin();
        int size = f.all.size();
        for (int i = 0; i < n; i++) {
            x = x.multiply(BigInteger.valueOf(16807)).mod(BigInteger.valueOf(2147483647));
            int v = x.intValueExact();
            g.v = v % 9 + 1;
            if (v % 3 == 0) {
                g.swapPlaces(v % size, v / 2 % size);
            }
            g = g.after(1);
        }
        return what == 0 ? g.ranks() : g.all.stream().mapToInt(t -> t.grown).sum();
    }

    private int image(int k) {
        if (!in(k, 0, 1)) {
            return BAD;
        }
        if (bare()) {
            return STATE;
        }
        images[k] = f.twin();
        return 1;
    }

    private int restore(int k) {
        if (!in(k, 0, 1)) {
            return BAD;
        }
        if (images[k] == null) {
            return STATE;
        }
        f = images[k].twin();
        acts.clear();
        return 1;
    }

    private int as(int t, int kind) {
        if (!has(t) || !in(kind, 0, 5)) {
            return BAD;
        }
        String[] kinds = {"topfs", "top", "o", "p", "fs", "s"};
        return end(kinds[kind].contains(f.all.get(t).sort) ? 0 : 3, t);
    }

    private int ask(int t, int what) {
        if (!has(t) || !in(what, 0, 1)) {
            return BAD;
        }
        trace = new ArrayList<>();
        return what == 0 ? size(t, f.all.get(t).sort) : mark(t, f.all.get(t).sort);
    }

    private int size(int t, String sort) {
        switch (sort) {
            case "o":
                trace.add(12);
                return -size(t, "t");
            case "t":
            case "p":
                trace.add(11);
                int lent = size(t, "");
                return lent + mark(t, f.all.get(t).sort);
            case "f":
                trace.add(13);
                return size(t, "") - 100;
            case "s":
                trace.add(14);
                return 2 * size(t, "f");
            default:
                trace.add(10);
                return f.all.get(t).rank;
        }
    }

    private int mark(int t, String sort) {
        switch (sort) {
            case "t":
                trace.add(21);
                return mark(t, "") + f.all.get(t).place;
            case "p":
                trace.add(22);
                return mark(t, "t") - 1000;
            case "f":
            case "s":
                trace.add(23);
                int lent = mark(t, "");
                return lent - size(t, f.all.get(t).sort);
            case "o":
                trace.add(24);
                return 2 * mark(t, "t");
            default:
                trace.add(20);
                return t;
        }
    }

    private int count(int what) {
        if (!in(what, 0, 8)) {
            return BAD;
        }
        int there = (int) Arrays.stream(rows).filter(r -> r != null).count();
        return new int[] {there, f.all.size(), f.year, f.v, f.frost, f.ranks(), f.married(), acts.size(),
            tape.length()}[what];
    }
}
