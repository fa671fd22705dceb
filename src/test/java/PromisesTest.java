/** Each promise of the document by answers that were worked out by hand from its words. */
public final class PromisesTest {
    private static final int NONE = TurnipSquires.NONE, BAD = TurnipSquires.BAD;
    private static final int STATE = TurnipSquires.STATE, FULL = TurnipSquires.FULL;
    private static final int NULL = -1000011, PLACE = -1000012, KIND = -1000013, SIZE = -1000014, STORE = -1000015;
    private static final int LEAST = Integer.MIN_VALUE, MOST = Integer.MAX_VALUE;

    /** One of each kind, in the order of the kinds: ranks 1 3 2 0 3. */
    private static final String FIVE = "g4,6;t1,5,1;o3,9,0;p2,0,1;f0,7,0;s3,2,1;";

    private static int wrong = 0;
    private static int promise = 0;

    private static void due(String call, long want, long got) {
        if (got != want) {
            wrong++;
            System.out.println("promise " + promise + ": " + call + " answered " + got + ", due is " + want);
        }
    }

    /** The calls' answers, one behind the other. */
    private static void dueAll(String calls, int[] want, int... got) {
        if (!java.util.Arrays.equals(want, got)) {
            wrong++;
            System.out.println("promise " + promise + ": " + calls + " answered " + java.util.Arrays.toString(got)
                    + ", due is " + java.util.Arrays.toString(want));
        }
    }

    private static int[] all(int... numbers) {
        return numbers;
    }

    private static void feedText(TurnipSquires x, String text) {
        for (char c : text.toCharArray()) {
            x.feed(c);
        }
    }

    private static int read(TurnipSquires x, String text) {
        feedText(x, text);
        return x.field();
    }

    private static TurnipSquires with(String text) {
        TurnipSquires x = new TurnipSquires();
        int turnips = read(x, text);
        due("field of " + text, text.length() - text.replace(";", "").length() - 1, turnips);
        return x;
    }

    /** A field of one kind: a law and so many turnips alike. */
    private static String many(int n, String turnip) {
        return "g1,0;" + turnip.repeat(n);
    }

    private static int[] turnipsOf(TurnipSquires x, int what) {
        int[] told = new int[x.count(1)];
        for (int t = 0; t < told.length; t++) {
            told[t] = x.turnip(t, what);
        }
        return told;
    }

    private static int[] traceOf(TurnipSquires x) {
        int n = 0;
        while (n < 20 && x.trace(n) != NONE) {
            n++;
        }
        int[] told = new int[n];
        for (int i = 0; i < n; i++) {
            told[i] = x.trace(i);
        }
        return told;
    }

    private static void setAll(TurnipSquires x, int row, int... items) {
        x.row(row, 0, items.length);
        for (int i = 0; i < items.length; i++) {
            x.set(row, i, items[i]);
        }
    }

    public static void main(String[] args) {
        aNewObject();
        row();
        set();
        copy();
        drop();
        feed();
        field();
        faultsOfField();
        fault();
        years();
        growing();
        marry();
        part();
        swap();
        lean();
        ground();
        undo();
        turnip();
        gains();
        gainsOfPairsAndLeaners();
        place();
        ahead();
        risen();
        squire();
        pairs();
        change();
        power();
        blocs();
        fits();
        chance();
        drawn();
        image();
        restore();
        kind();
        as();
        ask();
        trace();
        count();
        status();
        System.out.println(wrong == 0 ? "all promises hold" : wrong + " answers are not as due");
        if (wrong != 0) {
            System.exit(1);
        }
    }

    private static void aNewObject() {
        promise = 1;
        TurnipSquires x = new TurnipSquires();
        for (int what = 0; what <= 8; what++) {
            due("count(" + what + ")", 0, x.count(what));
        }
        dueAll("status, fault", all(0, 0), x.status(), x.fault());
        dueAll("what asks for a field", all(STATE, STATE, STATE, STATE, STATE, STATE, STATE, STATE, STATE),
                x.years(0), x.ground(0), x.undo(), x.squire(9), x.pairs(0, -5), x.change(0, 9), x.blocs(9),
                x.drawn(-1, 0, 9), x.image(0));
        dueAll("what asks for a turnip", all(BAD, BAD, BAD, BAD, BAD, BAD, BAD, BAD, BAD, BAD),
                x.marry(0, 1), x.part(0), x.swap(0, 1), x.lean(0), x.turnip(0, 0), x.place(0), x.ahead(0, 0, 0),
                x.risen(0, 0), x.power(0), x.kind(0));
        dueAll("constants", all(-1000000, -1000001, -1000002, -1000003), NONE, BAD, STATE, FULL);
    }

    private static void row() {
        promise = 2;
        TurnipSquires x = new TurnipSquires();
        dueAll("rows of each lane", all(0, 40, 7, 3), x.row(0, 0, 0), x.row(7, 1, 40), x.row(3, 2, 7), x.count(0));
        dueAll("wrong rows", all(BAD, BAD, BAD, BAD, BAD, BAD, BAD), x.row(-1, 0, 1), x.row(8, 0, 1),
                x.row(1, -1, 1), x.row(1, 3, 1), x.row(1, 0, 41), x.row(1, 0, MOST), x.row(LEAST, MOST, -1));
        due("status behind BAD", 0, x.status());
        dueAll("fewer than none", all(SIZE, 4, SIZE, 3), x.row(3, 0, -1), x.status(), x.row(3, 0, LEAST), x.count(0));
        due("the row stayed", 5, x.set(3, 6, 5));
        due("its lane stayed", 300, x.set(3, 5, 300));
        due("in place of it", 7, x.row(3, 0, 7));
        due("a byte now", 44, x.set(3, 5, 300));
        // All items are 0 in the new row: only so the ranks 0, 0, .. are those of one that never rises.
        read(x, "g1,0;f9,0,0;s0,0,0;");
        setAll(x, 0, 9, 9);
        due("nines fit", 2 + 4 + 8 + 16 + 32, x.fits(0, 0, 0, 2, 0));
        x.row(0, 0, 2);
        due("zeros do not", 0, x.fits(0, 0, 0, 2, 0));
        x.row(0, 0, 2);
        due("zeros do for the other", 2 + 4 + 8 + 16 + 32, x.fits(1, 0, 0, 2, 0));
    }

    private static void set() {
        promise = 3;
        TurnipSquires x = new TurnipSquires();
        x.row(0, 0, 3);
        x.row(1, 1, 40);
        x.row(2, 2, 1);
        dueAll("bytes", all(127, -128, -1, 0, -56), x.set(0, 0, 127), x.set(0, 1, 128), x.set(0, 2, 255),
                x.set(0, 0, 256), x.set(0, 0, 200));
        dueAll("shorts", all(32767, -32768, -1, 4464), x.set(1, 39, 32767), x.set(1, 0, 32768), x.set(1, 0, 65535),
                x.set(1, 0, 70000));
        dueAll("ints", all(MOST, LEAST, 70000), x.set(2, 0, MOST), x.set(2, 0, LEAST), x.set(2, 0, 70000));
        dueAll("wrong ones", all(BAD, BAD, NULL, PLACE, PLACE, PLACE, PLACE), x.set(-1, 0, 0), x.set(8, 0, 0),
                x.set(3, -1, 0), x.set(0, -1, 0), x.set(0, 3, 0), x.set(0, LEAST, 0), x.set(0, MOST, 0));
        due("status", 2, x.status());
        due("the next fine one", 1, x.set(0, 0, 1));
        due("status then", 0, x.status());
    }

    private static void copy() {
        promise = 4;
        TurnipSquires x = with("g9,0;t0,0,0;");
        // Rank is 0 1 2 3 3 4 5 6 7 8 9 9.. behind 1, 2, .. years: 9, 18, 27, 36, 45, 54, ..
        setAll(x, 0, 0, 1, 2, 3, 4, 5);
        setAll(x, 1, 7, 7, 7, 7, 7, 7, 7, 7);
        due("ahead", 2, x.copy(0, 0, 1, 0, 2));
        due("two of them told", 2, x.fits(0, 1, 0, 2, 0) & 2);
        due("the third not", 0, x.fits(0, 1, 0, 3, 0) & 2);
        due("from 2 on to 2", 4, x.copy(0, 2, 1, 2, 4));
        due("six told", 2, x.fits(0, 1, 0, 6, 0) & 2);
        due("the seventh is 7 yet", 0, x.fits(0, 1, 0, 7, 0) & 2);
        due("over itself, upwards", 5, x.copy(0, 0, 0, 1, 5));
        due("as they were ahead", 2, x.fits(0, 0, 1, 5, 0) & 2);
        due("over itself, downwards", 5, x.copy(0, 1, 0, 0, 5));
        due("as they were then, too", 2, x.fits(0, 0, 0, 5, 0) & 2);
        due("none, at the ends", 0, x.copy(0, 6, 1, 8, 0));
        x.row(2, 1, 6);
        dueAll("BAD", all(BAD, BAD, BAD, BAD), x.copy(-1, 0, 0, 0, 0), x.copy(8, 0, 0, 0, 0), x.copy(0, 0, -1, 0, 0),
                x.copy(0, 0, 8, 0, 0));
        dueAll("NULL ahead of all else", all(NULL, NULL, NULL, 1), x.copy(5, 0, 0, 0, 1), x.copy(0, 0, 5, 0, 1),
                x.copy(5, -1, 2, -1, -1), x.status());
        dueAll("STORE ahead of PLACE", all(STORE, STORE, 5), x.copy(0, 0, 2, 0, 1), x.copy(2, -1, 0, 9, -1), x.status());
        dueAll("PLACE", all(PLACE, PLACE, PLACE, PLACE, PLACE, PLACE, PLACE, PLACE, 2), x.copy(0, -1, 1, 0, 1),
                x.copy(0, 0, 1, -1, 1), x.copy(0, 0, 1, 0, -1), x.copy(0, 0, 1, 0, 7), x.copy(0, 3, 1, 0, 4),
                x.copy(0, 0, 1, 5, 4), x.copy(0, 7, 1, 0, 0), x.copy(0, MOST, 1, MOST, MOST), x.status());
        due("nothing has changed", 2, x.fits(0, 1, 0, 6, 0) & 2);
    }

    private static void drop() {
        promise = 5;
        TurnipSquires x = new TurnipSquires();
        x.row(0, 0, 5);
        x.row(7, 2, 0);
        dueAll("dropped", all(5, 0, 0), x.drop(0), x.drop(7), x.count(0));
        dueAll("missing then", all(NULL, 1, NULL, NULL), x.drop(0), x.status(), x.set(0, 0, 0), x.drop(3));
        dueAll("no rows", all(BAD, BAD), x.drop(-1), x.drop(8));
        due("made anew", 2, x.row(0, 1, 2));
        dueAll("and dropped", all(2, 0), x.drop(0), x.status());
    }

    private static void feed() {
        promise = 6;
        TurnipSquires x = new TurnipSquires();
        dueAll("wrong bytes", all(BAD, BAD, BAD, 0), x.feed(-1), x.feed(256), x.feed(MOST), x.count(8));
        for (int i = 1; i <= 90; i++) {
            due("byte " + i, i, x.feed(i == 1 ? 0 : 255));
        }
        dueAll("beyond 90", all(FULL, BAD, 90), x.feed('g'), x.feed(-1), x.count(8));
        dueAll("read, then from 1 on", all(-1000100, 0, 1), x.field(), x.count(8), x.feed('g'));
    }

    private static void field() {
        promise = 7;
        TurnipSquires x = with(FIVE);
        dueAll("ranks", all(1, 3, 2, 0, 3), turnipsOf(x, 0));
        dueAll("grown", all(5, 9, 0, 7, 2), turnipsOf(x, 1));
        dueAll("places", all(0, 1, 2, 3, 4), turnipsOf(x, 2));
        dueAll("leaning", all(1, 0, 1, 0, 1), turnipsOf(x, 3));
        dueAll("married", all(NONE, NONE, NONE, NONE, NONE), turnipsOf(x, 4));
        dueAll("ground, frost, tape", all(4, 6, 0), x.count(3), x.count(4), x.count(8));
        x.years(3);
        x.marry(0, 1);
        x.swap(2, 3);
        x.image(1);
        x.row(0, 0, 4);
        due("the most", 7, read(x, many(7, "t0,0,0;")));
        dueAll("in place of the one before", all(0, 0, 0, 1, 0, 1), x.count(2), x.count(6), x.count(7), x.count(3),
                x.count(4), x.count(0));
        dueAll("places anew", all(0, 1, 2, 3, 4, 5, 6), turnipsOf(x, 2));
        dueAll("places read the other way", all(2, 3), x.place(2), x.place(3));
        due("images stay", 1, x.restore(1));
        due("as they were", 3, x.count(2));
        due("two figures", 1, read(x, "g09,15;p09,00,01;"));
        dueAll("are one number", all(9, 15, 9, 0, 1), x.count(3), x.count(4), x.turnip(0, 0), x.turnip(0, 1),
                x.turnip(0, 3));
        due("the longest", 7, read(x, "g01,00;" + "s00,00,00;".repeat(7)));
    }

    private static void faulty(String text, int at, int number) {
        TurnipSquires x = with(FIVE);
        x.marry(1, 2);
        due("field of " + text, -1000100 - at, read(x, text));
        dueAll("fault of " + text + ", and all stays", all(number, 0, 5, 9, 4, 6, 2, 1), x.fault(), x.count(8),
                x.count(1), x.count(5), x.count(3), x.count(4), x.count(6), x.count(7));
    }

    private static void faultsOfField() {
        promise = 7;
        String law = "g4,6;";
        faulty("", 0, 1);
        faulty("t1,5,1;", 0, 1);
        faulty("G4,6;t1,5,1;", 0, 1);
        faulty("g", 1, 1);
        faulty("g,6;", 1, 1);
        faulty("g0,6;t1,5,1;", 1, 2);
        faulty("g10,6;t1,5,1;", 1, 2);
        faulty("g004,6;t1,5,1;", 1, 1);
        faulty("g0004,6;t1,5,1;", 1, 1);
        faulty("g00000004,6;t1,5,1;", 1, 1);
        faulty("g 4,6;t1,5,1;", 1, 1);
        faulty("g4;6;", 2, 1);
        faulty("g4,16;", 3, 2);
        faulty("g4,160;", 3, 1);
        faulty("g4,6", 4, 1);
        faulty("g4,6,", 4, 1);
        faulty(law, 5, 1);
        faulty(law + "g", 5, 1);
        faulty(law + "1", 5, 1);
        faulty(law + ";", 5, 1);
        faulty(law + "x1,5,1;", 5, 1);
        faulty(law + (char) 233, 5, 1);
        faulty(law + "tt", 6, 1);
        faulty(law + "t10,5,1;", 6, 2);
        faulty(law + "t100,5,1;", 6, 1);
        faulty(law + "t0001,5,1;", 6, 1);
        faulty(law + "t1", 7, 1);
        faulty(law + "t1;", 7, 1);
        faulty(law + "t1,10,1;", 8, 2);
        faulty(law + "t1,5;", 9, 1);
        faulty(law + "t1,5,2;", 10, 2);
        faulty(law + "t1,5,1", 11, 1);
        faulty(law + "t1,5,1,", 11, 1);
        faulty(law + "t1,5,1;t", 13, 1);
        faulty(law + "t1,5,1;\n", 12, 1);
        faulty(many(7, "t0,0,0;") + "t0,0,0;", 54, 3);
        faulty(many(7, "t0,0,0;") + "s", 54, 3);
        faulty(many(7, "t0,0,0;") + "x", 54, 1);
        faulty(many(7, "t0,0,0;") + "0", 54, 1);
    }

    private static void fault() {
        promise = 8;
        TurnipSquires x = new TurnipSquires();
        due("none yet", 0, x.fault());
        read(x, FIVE);
        due("none by a field", 0, x.fault());
        read(x, "g0");
        due("a number", 2, x.fault());
        read(x, FIVE);
        due("the latest stays", 2, x.fault());
        read(x, many(8, "t0,0,0;"));
        due("a turnip more", 3, x.fault());
        read(x, "?");
        due("no token", 1, x.fault());
    }

    private static void years() {
        promise = 9;
        TurnipSquires x = with(FIVE);
        // By year 0 the five gain 5, 2, 5, 9 and 0: the old one, the plain one and the fellow rise.
        due("a year", 2 + 4 + 2 + 1 + 3, x.years(1));
        dueAll("grown", all(0, 1, 5, 6, 2), turnipsOf(x, 1));
        dueAll("year, acts", all(1, 1), x.count(2), x.count(7));
        dueAll("wrong ones", all(BAD, BAD, BAD, 1), x.years(0), x.years(25), x.years(LEAST), x.count(2));
        x.years(24);
        dueAll("acts, the oldest forgotten", all(25, 24), x.count(2), x.count(7));
        for (int i = 0; i < 415; i++) {
            x.years(24);
        }
        due("near the end", 9985, x.count(2));
        dueAll("beyond it", all(FULL, BAD, 9985, 24), x.years(15), x.years(25), x.count(2), x.count(7));
        due("up to it", x.count(5), x.years(14));
        dueAll("no further", all(9999, FULL), x.count(2), x.years(1));
    }

    private static void growing() {
        promise = 9;
        // A fellow of rank 0 with ground 9 gains 18: from grown 9 it rises by two ranks.
        TurnipSquires x = with("g9,0;f0,9,0;f8,9,0;t8,9,0;t9,5,0;t8,0,1;");
        due("all ranks", 2 + 8 + 9 + 9 + 8, x.years(1));
        dueAll("ranks", all(2, 8, 9, 9, 8), turnipsOf(x, 0));
        dueAll("grown, with rank 9 at most 9", all(7, 9, 8, 9, 9), turnipsOf(x, 1));
        x.years(1);
        dueAll("ranks then", all(4, 8, 9, 9, 9), turnipsOf(x, 0));
        dueAll("grown then", all(5, 9, 9, 9, 8), turnipsOf(x, 1));
        // All by what there is as the year begins: the one that rises above its neighbour helps it only next year.
        TurnipSquires y = with("g5,0;t1,5,0;p1,0,0;");
        y.years(1);
        dueAll("ranks by turns", all(2, 1), turnipsOf(y, 0));
        dueAll("grown by turns", all(0, 5), turnipsOf(y, 1));
        // Ahead of the second year the purple one has one above it beside, towards which it leans, too.
        dueAll("its gain then", all(5, 7), turnipsOf(y, 5));
        // Frost is by the year as it begins, by 4 left over: 5 is years 0 and 2, 4 and 6, ..
        TurnipSquires z = with("g3,5;o0,0,0;");
        dueAll("grown by frost", all(3, 4, 7, 8, 1, 2), oldGrowing(z, 6));
    }

    private static int[] oldGrowing(TurnipSquires x, int years) {
        int[] told = new int[years];
        for (int i = 0; i < years; i++) {
            x.years(1);
            told[i] = x.turnip(0, 1);
        }
        return told;
    }

    private static void marry() {
        promise = 10;
        TurnipSquires x = with(FIVE);
        dueAll("two pairs", all(2, 4, 4), x.marry(4, 0), x.marry(1, 3), x.count(6));
        dueAll("whom", all(4, 3, NONE, 1, 0), turnipsOf(x, 4));
        dueAll("one is", all(STATE, STATE, STATE), x.marry(0, 2), x.marry(2, 1), x.marry(0, 4));
        dueAll("wrong ones", all(BAD, BAD, BAD, BAD, BAD), x.marry(2, 2), x.marry(0, 0), x.marry(-1, 2),
                x.marry(2, 5), x.marry(MOST, LEAST));
        due("two acts alone", 2, x.count(7));
    }

    private static void part() {
        promise = 11;
        TurnipSquires x = with(FIVE);
        x.marry(4, 0);
        x.marry(1, 3);
        dueAll("the other one, too", all(0, STATE, STATE, 2), x.part(4), x.part(4), x.part(0), x.count(6));
        dueAll("by either", all(1, 0), x.part(3), x.count(6));
        dueAll("wrong ones", all(STATE, BAD, BAD, 4), x.part(2), x.part(-1), x.part(5), x.count(7));
    }

    private static void swap() {
        promise = 12;
        TurnipSquires x = with(FIVE);
        dueAll("places then", all(4, 2), x.swap(0, 4), x.swap(1, 2));
        dueAll("places", all(4, 2, 1, 3, 0), turnipsOf(x, 2));
        due("the one's place, by a chain", 4, x.swap(3, 0));
        dueAll("places by then", all(3, 2, 1, 4, 0), turnipsOf(x, 2));
        dueAll("turnips in them", all(4, 2, 1, 0, 3), x.place(0), x.place(1), x.place(2), x.place(3), x.place(4));
        dueAll("wrong ones", all(BAD, BAD, BAD, BAD, 3), x.swap(1, 1), x.swap(-1, 1), x.swap(1, 5), x.swap(5, 5),
                x.count(7));
    }

    private static void lean() {
        promise = 13;
        TurnipSquires x = with(FIVE);
        dueAll("the other one", all(0, 1, 0, 1), x.lean(0), x.lean(1), x.lean(1), x.lean(0));
        dueAll("wrong ones", all(BAD, BAD, BAD, 4), x.lean(-1), x.lean(5), x.lean(LEAST), x.count(7));
        dueAll("as at first", all(1, 0, 1, 0, 1), turnipsOf(x, 3));
    }

    private static void ground() {
        promise = 14;
        TurnipSquires x = with(FIVE);
        dueAll("what it was", all(4, 1, 9, 9), x.ground(1), x.ground(9), x.ground(9), x.count(3));
        dueAll("wrong ones", all(BAD, BAD, BAD, 9), x.ground(0), x.ground(10), x.ground(LEAST), x.count(3));
        due("acts, also by which nothing becomes another", 3, x.count(7));
    }

    private static void undo() {
        promise = 15;
        TurnipSquires x = with(FIVE);
        x.marry(0, 1);
        x.swap(2, 4);
        x.lean(3);
        x.ground(4);
        x.years(2);
        x.part(1);
        due("seven acts", 7, x.count(7));
        dueAll("parted no more", all(6, 1, 2), x.undo(), x.turnip(0, 4), x.count(6));
        dueAll("a year less", all(5, 1), x.undo(), x.count(2));
        dueAll("none", all(4, 0, 9), x.undo(), x.count(2), x.count(5));
        dueAll("grown as ahead", all(5, 9, 0, 7, 2), turnipsOf(x, 1));
        dueAll("nothing was another", all(3, 4), x.undo(), x.count(3));
        dueAll("leaning back", all(2, 0), x.undo(), x.turnip(3, 3));
        dueAll("places back", all(1, 2, 4, 2), x.undo(), x.turnip(2, 2), x.turnip(4, 2), x.place(2));
        dueAll("not married", all(0, NONE, STATE), x.undo(), x.turnip(1, 4), x.undo());
        for (int i = 1; i <= 26; i++) {
            x.ground(i % 9 + 1);
        }
        due("24 are kept", 24, x.count(7));
        for (int i = 23; i >= 0; i--) {
            due("undone", i, x.undo());
        }
        // The first two of the 26 stand: by the second the ground was 3.
        dueAll("the oldest stay", all(STATE, 3), x.undo(), x.count(3));
        due("a new act", 3, x.ground(8));
        due("can be undone", 0, x.undo());
        due("ground", 3, x.count(3));
        x.years(24);
        x.lean(0);
        due("also of many years", 23, x.undo());
        due("which stand yet", 24, x.count(2));
    }

    private static void turnip() {
        promise = 16;
        TurnipSquires x = with(FIVE);
        x.swap(0, 2);
        x.marry(1, 4);
        dueAll("of 2", all(2, 0, 0, 1, NONE), x.turnip(2, 0), x.turnip(2, 1), x.turnip(2, 2), x.turnip(2, 3),
                x.turnip(2, 4));
        dueAll("of 1", all(3, 9, 1, 0, 4), x.turnip(1, 0), x.turnip(1, 1), x.turnip(1, 2), x.turnip(1, 3),
                x.turnip(1, 4));
        dueAll("wrong ones", all(BAD, BAD, BAD, BAD, BAD), x.turnip(-1, 0), x.turnip(5, 0), x.turnip(0, -1),
                x.turnip(0, 6), x.turnip(LEAST, MOST));
    }

    /** The gain of the turnip in the middle of three, where the ground is 4 and there is no frost. */
    private static int middle(String three) {
        return with("g4,0;" + three).turnip(1, 5);
    }

    private static int alone(String field) {
        return with(field).turnip(0, 5);
    }

    private static void gains() {
        promise = 16;
        dueAll("plain ones", all(7, 7), turnipsOf(with("g7,0;t9,9,0;t0,0,1;"), 5));
        dueAll("old ones, frost in all years but this", all(3, 2, 0), alone("g7,14;o9,9,0;"), alone("g4,14;o0,0,1;"),
                alone("g1,14;o0,0,1;"));
        dueAll("old ones, frost in this year alone", all(7, 1), alone("g7,1;o0,0,0;"), alone("g1,1;o5,0,0;"));
        dueAll("purple ones by those above beside them", all(4, 5, 5, 6, 6, 4, 7),
                middle("t2,0,0;p2,0,0;t1,0,0;"), middle("t2,0,0;p2,0,0;t3,0,0;"), middle("t3,0,0;p2,0,1;t2,0,0;"),
                middle("t3,0,0;p2,0,0;t2,0,0;"), middle("t2,0,0;p2,0,1;t9,0,0;"), middle("t9,0,0;p9,0,0;t9,0,0;"),
                middle("t3,0,0;p2,0,1;t3,0,0;"));
        dueAll("fellows", all(8, 8, 0, 0), alone("g4,0;f0,0,0;"), alone("g4,0;f2,9,0;"), alone("g4,0;f3,0,0;"),
                alone("g4,0;f9,0,0;t9,0,0;"));
        dueAll("a fellow has none of who is above", all(0), middle("t9,0,0;f3,0,1;t0,0,0;"));
        dueAll("sons", all(8, 8, 0, 0), alone("g4,0;s0,0,0;"), alone("g4,0;s2,9,0;"), alone("g4,0;s3,0,0;"),
                alone("g4,0;s9,0,0;t9,0,0;"));
        dueAll("sons by one above, on either hand", all(8, 8, 0, 9), middle("t4,0,0;s3,0,1;t0,0,0;"),
                middle("t0,0,0;s3,0,0;t4,0,0;"), middle("t3,0,0;s3,0,0;t3,0,0;"), middle("t9,0,0;s8,0,0;t9,0,0;"));
        due("not of one farther off", 0, alone("g4,0;s3,0,0;t3,0,0;t9,0,0;"));
    }

    private static void gainsOfPairsAndLeaners() {
        promise = 16;
        TurnipSquires x = with("g3,0;t0,0,0;f0,0,0;f5,0,0;t0,0,1;");
        x.marry(0, 1);
        dueAll("half of 3 and 6; a leaner towards one below", all(4, 4, 0, 3), turnipsOf(x, 5));
        x.part(0);
        x.marry(2, 1);
        dueAll("half of 6 and none", all(3, 3, 3, 3), turnipsOf(x, 5));
        TurnipSquires y = with("g3,0;t0,0,1;t1,0,1;t1,0,0;t2,0,0;t3,0,1;t2,0,0;");
        dueAll("leaners", all(4, 3, 3, 3, 3, 4), turnipsOf(y, 5));
        y.lean(1);
        y.lean(2);
        dueAll("leaners turned", all(4, 3, 4, 3, 3, 4), turnipsOf(y, 5));
        y.swap(0, 5);
        dueAll("by places", all(3, 4, 4, 3, 3, 3), turnipsOf(y, 5));
        // A leaner's 1 is last of all: not halved, not shared.
        TurnipSquires z = with("g3,0;t0,0,1;t1,0,0;");
        z.marry(0, 1);
        dueAll("leaning, married", all(4, 3), turnipsOf(z, 5));
        TurnipSquires w = with("g3,0;f3,0,1;t4,0,0;");
        dueAll("of one that gains nothing else", all(1, 3), turnipsOf(w, 5));
        TurnipSquires v = with("g9,0;t9,9,0;");
        dueAll("whatever rank 9 lets it keep", all(9), turnipsOf(v, 5));
    }

    private static void place() {
        promise = 17;
        TurnipSquires x = with(FIVE);
        dueAll("at first", all(0, 1, 4), x.place(0), x.place(1), x.place(4));
        x.swap(1, 4);
        dueAll("then", all(0, 4, 2, 3, 1), x.place(0), x.place(1), x.place(2), x.place(3), x.place(4));
        dueAll("wrong ones", all(BAD, BAD, BAD), x.place(-1), x.place(5), x.place(LEAST));
    }

    private static void ahead() {
        promise = 18;
        TurnipSquires x = with("g9,0;t0,0,0;o3,3,0;");
        dueAll("ranks", all(0, 0, 1, 5, 9), x.ahead(0, 0, 0), x.ahead(0, 1, 0), x.ahead(0, 2, 0), x.ahead(0, 6, 0),
                x.ahead(0, 60, 0));
        dueAll("grown", all(0, 9, 8, 4, 9), x.ahead(0, 0, 1), x.ahead(0, 1, 1), x.ahead(0, 2, 1), x.ahead(0, 6, 1),
                x.ahead(0, 60, 1));
        dueAll("nothing changes", all(0, 0, 0), x.count(2), x.turnip(0, 1), x.count(7));
        dueAll("wrong ones", all(BAD, BAD, BAD, BAD, BAD, BAD), x.ahead(2, 0, 0), x.ahead(-1, 0, 0),
                x.ahead(0, -1, 0), x.ahead(0, 61, 0), x.ahead(0, 0, 2), x.ahead(0, 0, -1));
        // Frost in years 1 and 2 by 4 left over: on from year 1 the old one gains 9, 9, 4, 4.
        TurnipSquires y = with("g9,6;o0,0,0;");
        y.years(1);
        dueAll("by the year that is", all(3, 2, 6, 0), y.ahead(0, 1, 1), y.ahead(0, 2, 1), y.ahead(0, 3, 1),
                y.ahead(0, 4, 1));
        y.lean(0);
        y.years(1);
        due("as it comes", 3, y.turnip(0, 1));
    }

    private static void risen() {
        promise = 19;
        TurnipSquires x = with("g9,0;t1,0,0;t9,0,0;f0,0,1;");
        dueAll("years", all(0, 0, 2, 9), x.risen(0, 0), x.risen(0, 1), x.risen(0, 2), x.risen(0, 9));
        dueAll("with rank 9 all along", all(0, 0), x.risen(1, 9), x.risen(1, 0));
        // The fellow has gained 18, then 36, and stays.
        dueAll("two ranks in one year, then none", all(1, 2, 2, NONE), x.risen(2, 1), x.risen(2, 2), x.risen(2, 3),
                x.risen(2, 4));
        dueAll("wrong ones", all(BAD, BAD, BAD, BAD), x.risen(3, 0), x.risen(-1, 0), x.risen(0, -1), x.risen(0, 10));
        dueAll("behind 59, 60, 61 years", all(59, 60, NONE), with("g1,0;t3,1,0;").risen(0, 9),
                with("g1,0;t3,0,0;").risen(0, 9), with("g1,0;t2,9,0;").risen(0, 9));
        due("nothing changes", 0, x.count(2));
    }

    private static void squire() {
        promise = 20;
        TurnipSquires x = with("g1,0;t3,0,0;t3,1,0;t3,1,0;");
        dueAll("the least of two", all(1, 59), x.squire(0), x.squire(1));
        TurnipSquires y = with("g1,0;t2,9,0;t3,0,0;");
        dueAll("at the last", all(1, 60), y.squire(0), y.squire(1));
        TurnipSquires z = with("g1,0;t2,9,0;f5,0,0;");
        dueAll("none", all(NONE, NONE), z.squire(0), z.squire(1));
        TurnipSquires w = with("g1,0;t8,9,0;f9,0,0;t9,0,0;");
        dueAll("already", all(1, 0), w.squire(0), w.squire(1));
        dueAll("the first", all(0, 9), with("g9,0;t1,0,0;t0,0,1;").squire(0), with("g9,0;t1,0,0;t0,0,1;").squire(1));
        dueAll("wrong ones", all(BAD, BAD), w.squire(-1), w.squire(2));
    }

    private static void pairs() {
        promise = 21;
        // Alone the fellow of rank 0 gains 10, the others 5, none, 5; the year lifts who comes to 10.
        TurnipSquires x = with("g5,0;f0,0,0;t0,0,0;f3,0,0;");
        dueAll("nobody first", all(4, NONE, NONE, NONE), x.pairs(1, -1), x.pairs(1, 0), x.pairs(1, 1), x.pairs(1, 2));
        // Half of 10 lifts the second, too, if 5 is enough to rise: 0 with 1 or with 2 does.
        TurnipSquires y = with("g5,0;f0,5,0;f3,5,0;f3,5,0;");
        dueAll("the least mate", all(8, 1, 0, NONE), y.pairs(1, -1), y.pairs(1, 0), y.pairs(1, 1), y.pairs(1, 2));
        y.marry(0, 2);
        y.marry(1, 2);
        dueAll("whoever is married now", all(8, 1, 0, NONE), y.pairs(1, -1), y.pairs(1, 0), y.pairs(1, 1),
                y.pairs(1, 2));
        dueAll("nothing changes", all(2, 0, 1), y.turnip(0, 4), y.count(2), y.count(7));
        dueAll("more years, then fewer", all(10, 8), y.pairs(3, -1), y.pairs(1, -1));
        TurnipSquires z = with("g5,0;f3,5,0;f0,5,0;f0,5,0;f3,5,0;");
        dueAll("two pairs", all(10, 1, 0, 3, 2), z.pairs(1, -1), z.pairs(1, 0), z.pairs(1, 1), z.pairs(1, 2),
                z.pairs(1, 3));
        dueAll("wrong ones", all(BAD, BAD, BAD, BAD, BAD), z.pairs(0, -1), z.pairs(21, -1), z.pairs(1, -2),
                z.pairs(1, 4), z.pairs(LEAST, MOST));
        TurnipSquires v = with("g1,0;t0,0,0;t0,0,0;");
        dueAll("no ranks at all", all(0, NONE, NONE), v.pairs(1, -1), v.pairs(1, 0), v.pairs(1, 1));
        TurnipSquires w = with("g1,0;t0,0,0;");
        dueAll("of one", all(2, NONE), w.pairs(20, -1), w.pairs(20, 0));
    }

    private static void change() {
        promise = 22;
        // The purple one rises if it comes between the two of rank 1, and not else.
        TurnipSquires x = with("g4,0;p0,4,0;t0,0,0;t1,0,0;t0,0,0;t1,0,1;");
        dueAll("0 with 3", all(3, 3), x.change(1, 0), x.change(1, 1));
        x.swap(1, 3);
        dueAll("by turnips, not by places", all(1, 3), x.change(1, 0), x.change(1, 1));
        dueAll("nothing changes", all(0, 3, 1), x.place(0), x.place(1), x.count(7));
        TurnipSquires u = with("g4,0;t0,0,0;t0,0,0;t1,0,0;t0,0,0;t1,0,1;p0,3,1;");
        dueAll("3 with 5", all(35, 3), u.change(1, 0), u.change(1, 1));
        TurnipSquires y = with("g4,0;t0,0,0;t0,0,0;t0,0,0;");
        dueAll("the first of like ones", all(1, 3), y.change(3, 0), y.change(3, 1));
        dueAll("the longest", all(1, 27), y.change(30, 0), y.change(30, 1));
        dueAll("wrong ones", all(BAD, BAD, BAD, BAD), y.change(0, 0), y.change(31, 0), y.change(1, -1),
                y.change(1, 2));
        TurnipSquires z = with("g4,0;t0,0,0;");
        dueAll("not two", all(NONE, NONE, BAD, BAD), z.change(1, 0), z.change(30, 1), z.change(31, 0), z.change(1, 2));
        TurnipSquires t = with("g1,0;t0,0,0;t0,0,0;");
        dueAll("no ranks at all", all(1, 0), t.change(1, 0), t.change(1, 1));
        // The purple one would rise if all stayed.
        TurnipSquires w = with("g4,0;t9,0,0;p0,4,0;");
        dueAll("two change, though it is a loss", all(1, 9), w.change(1, 0), w.change(1, 1));
        TurnipSquires v = with("g4,0;f0,2,0;t0,2,0;");
        due("nobody is married", 1, v.change(1, 1));
        v.marry(0, 1);
        due("the married stay so", 0, v.change(1, 1));
    }

    private static void power() {
        promise = 23;
        // Ranks 1 3 2 0 3, more than half is 5.
        TurnipSquires x = with(FIVE);
        dueAll("power", all(0, 8, 8, 0, 8), x.power(0), x.power(1), x.power(2), x.power(3), x.power(4));
        TurnipSquires y = with("g1,0;t1,0,0;t1,0,0;");
        dueAll("half is not more than half", all(1, 1), y.power(0), y.power(1));
        TurnipSquires z = with("g1,0;t0,0,0;t0,0,0;");
        dueAll("none have votes", all(0, 0), z.power(0), z.power(1));
        due("alone", 1, with("g1,0;t1,0,0;").power(0));
        due("of seven alike", 20, with(many(7, "t1,0,0;")).power(6));
        dueAll("wrong ones", all(BAD, BAD, BAD), x.power(-1), x.power(5), x.power(MOST));
    }

    private static void blocs() {
        promise = 24;
        TurnipSquires x = with(FIVE);
        dueAll("two of them", all(2, 6), x.blocs(0), x.blocs(1));
        TurnipSquires y = with("g1,0;t1,0,0;t1,0,0;t0,0,0;t3,0,0;");
        dueAll("one alone", all(1, 8), y.blocs(0), y.blocs(1));
        TurnipSquires z = with("g1,0;t2,0,0;t1,0,0;t3,0,0;");
        dueAll("half is too few", all(2, 5), z.blocs(0), z.blocs(1));
        TurnipSquires w = with("g1,0;t0,0,0;t0,9,0;");
        dueAll("none", all(NONE, NONE), w.blocs(0), w.blocs(1));
        dueAll("wrong ones", all(BAD, BAD), w.blocs(-1), w.blocs(2));
        dueAll("of seven", all(4, 15), with(many(7, "t1,0,0;")).blocs(0), with(many(7, "t1,0,0;")).blocs(1));
    }

    private static void fits() {
        promise = 25;
        TurnipSquires x = with("g4,6;t0,6,0;t5,0,1;");
        // By kinds it would gain 4, 2, 5, 8, 8 in this year.
        setAll(x, 0, 9, 1, 1, 2);
        dueAll("sorts", all(2 + 8 + 16 + 32, 1), x.fits(0, 0, 1, 1, 0), x.kind(0));
        dueAll("grown 6 to 9", all(64 + 128 + 256 + 512, 6), x.fits(0, 0, 1, 1, 1), x.turnip(0, 1));
        dueAll("ground 4 to 9", all(16 + 32 + 64 + 128 + 256 + 512, 4), x.fits(0, 0, 1, 1, 2), x.count(3));
        dueAll("any frost", all(65535, 6), x.fits(0, 0, 1, 1, 3), x.count(4));
        setAll(x, 3, 0, 1);
        dueAll("grown 2 to 5, so that it comes to 10 by the second year", all(4 + 8 + 16 + 32), x.fits(0, 3, 0, 2, 1));
        dueAll("grown 0 to 5", all(63), x.fits(0, 3, 0, 1, 1));
        dueAll("none, by its first item", all(0, 0, 0, 0), x.fits(0, 0, 0, 2, 0), x.fits(0, 0, 0, 2, 1),
                x.fits(0, 0, 0, 2, 2), x.fits(0, 0, 0, 2, 3));
        // By ground 4 it has 10, 14, 18 and no rank 2; by 5 it has 11, 16, 21, by 7 already 20 in the second year.
        dueAll("three years", all(256 + 512, 32 + 64), x.fits(0, 0, 1, 3, 1), x.fits(0, 0, 1, 3, 2));
        TurnipSquires y = with("g4,0;o0,6,0;");
        setAll(y, 1, 1, 1, 0, 1);
        dueAll("frost in year 0, or not", all(0xAAAA, 0x5555), y.fits(0, 1, 0, 2, 3), y.fits(0, 1, 2, 2, 3));
        y.years(1);
        setAll(y, 1, 1, 1, 2);
        // It has 8 now and comes to 20 only by three years of frost; year 4 has the bit of year 0.
        due("frost in years 1, 2, 3", 1 << 14 | 1 << 15, y.fits(0, 1, 0, 3, 3));
        setAll(y, 1, 1, 1, 1, 2);
        due("in two of years 1 to 4, but not in 1, 2, 3", 1 << 3 | 1 << 5 | 1 << 9 | 1 << 6 | 1 << 10 | 1 << 12
                | 1 << 7 | 1 << 11 | 1 << 13, y.fits(0, 1, 0, 4, 3));
        x.row(2, 2, 12);
        dueAll("twelve zeros", all(0, 0), x.fits(0, 2, 0, 12, 0), x.status());
        dueAll("BAD", all(BAD, BAD, BAD, BAD, BAD, BAD, BAD, BAD), x.fits(2, 0, 0, 1, 0), x.fits(-1, 0, 0, 1, 0),
                x.fits(0, 8, 0, 1, 0), x.fits(0, -1, 0, 1, 0), x.fits(0, 0, 0, 0, 0), x.fits(0, 2, 0, 13, 0),
                x.fits(0, 0, 0, 1, 4), x.fits(0, 0, 0, 1, -1));
        dueAll("found", all(NULL, 1, PLACE, PLACE, PLACE, PLACE, 2), x.fits(0, 5, -1, 1, 0), x.status(),
                x.fits(0, 0, -1, 1, 0), x.fits(0, 0, 3, 2, 0), x.fits(0, 0, 4, 1, 0), x.fits(0, 0, MOST, 12, 0),
                x.status());
        dueAll("nothing changes", all(0, 0), x.count(2), x.count(7));
    }

    private static void chance() {
        promise = 26;
        // It gains 4 in frost and 2 without, whatever FROST says.
        for (String frost : new String[] {"0", "15"}) {
            TurnipSquires x = with("g4," + frost + ";o0,6,0;");
            dueAll("a year, 3 of 10", all(3, 10), x.chance(0, 1, 1, 3, 0), x.chance(0, 1, 1, 3, 1));
            dueAll("a year, 5 of 10", all(1, 2), x.chance(0, 1, 1, 5, 0), x.chance(0, 1, 1, 5, 1));
            dueAll("never", all(0, 1), x.chance(0, 1, 1, 0, 0), x.chance(0, 1, 1, 0, 1));
            dueAll("always", all(1, 1), x.chance(0, 1, 1, 10, 0), x.chance(0, 1, 1, 10, 1));
            dueAll("two years", all(1, 1), x.chance(0, 1, 2, 3, 0), x.chance(0, 1, 2, 3, 1));
            dueAll("no years", all(1, 1, 0, 1), x.chance(0, 0, 0, 5, 0), x.chance(0, 0, 0, 5, 1),
                    x.chance(0, 1, 0, 5, 0), x.chance(0, 1, 0, 5, 1));
        }
        TurnipSquires y = with("g2,0;o0,6,0;o0,0,1;");
        // Of 4 it lacks three are sure in three years: 1 less 7 by 10 thrice; then 1 less 6 by 10 thrice.
        dueAll("three years", all(657, 1000, 98, 125), y.chance(0, 1, 3, 3, 0), y.chance(0, 1, 3, 3, 1),
                y.chance(0, 1, 3, 4, 0), y.chance(0, 1, 3, 4, 1));
        dueAll("all but one in a thousand", all(999, 1000), y.chance(0, 1, 3, 9, 0), y.chance(0, 1, 3, 9, 1));
        // Two of eight at least: 1 less 0.9 to the power of 8, less 8 times 0.1 times 0.9 to the power of 7.
        dueAll("eight years", all(18689527, 100000000), y.chance(1, 1, 8, 1, 0), y.chance(1, 1, 8, 1, 1));
        dueAll("nothing changes", all(0, 0, 6), y.count(2), y.count(7), y.turnip(0, 1));
        dueAll("wrong ones", all(BAD, BAD, BAD, BAD, BAD, BAD, BAD, BAD, BAD, BAD), y.chance(2, 0, 0, 0, 0),
                y.chance(-1, 0, 0, 0, 0), y.chance(0, -1, 0, 0, 0), y.chance(0, 10, 0, 0, 0), y.chance(0, 0, -1, 0, 0),
                y.chance(0, 0, 9, 0, 0), y.chance(0, 0, 0, -1, 0), y.chance(0, 0, 0, 11, 0), y.chance(0, 0, 0, 0, 2),
                y.chance(0, 0, 0, 0, -1));
        dueAll("the edges", all(1, 0), y.chance(0, 0, 8, 10, 0), y.chance(0, 9, 8, 10, 0));
    }

    private static void drawn() {
        promise = 27;
        // From 1 on X is 16807, 282475249, 1622650073, 984943658: the grounds are 5, 8, 6, 3.
        TurnipSquires x = with("g4,0;t0,0,0;");
        dueAll("grown", all(0, 5, 3, 9, 2), x.drawn(0, 1, 1), x.drawn(1, 1, 1), x.drawn(2, 1, 1), x.drawn(3, 1, 1),
                x.drawn(4, 1, 1));
        dueAll("ranks", all(0, 0, 1, 1, 2, 9), x.drawn(0, 1, 0), x.drawn(1, 1, 0), x.drawn(2, 1, 0), x.drawn(3, 1, 0),
                x.drawn(4, 1, 0), x.drawn(60, 999999, 0));
        // From 3 on X is 50421, ground 4; by 3 it leaves 0, its half 1: 0 and 1 change places.
        TurnipSquires y = with("g9,0;p0,0,1;t0,0,1;t1,0,1;");
        dueAll("changed places", all(14, 1), y.drawn(1, 3, 1), y.drawn(1, 3, 0));
        dueAll("nothing changes", all(0, 9, 0, 0), y.place(0), y.count(3), y.count(2), y.count(7));
        y.swap(0, 1);
        due("changed back", 13, y.drawn(1, 3, 1));
        dueAll("wrong ones", all(BAD, BAD, BAD, BAD, BAD, BAD), x.drawn(-1, 1, 0), x.drawn(61, 1, 0), x.drawn(1, 0, 0),
                x.drawn(1, 1000000, 0), x.drawn(1, 1, -1), x.drawn(1, 1, 2));
    }

    private static void image() {
        promise = 28;
        TurnipSquires x = with(FIVE);
        dueAll("wrong ones", all(BAD, BAD), x.image(-1), x.image(2));
        dueAll("kept", all(1, 1), x.image(0), x.image(1));
        x.years(1);
        due("kept anew", 1, x.image(1));
        due("no act", 1, x.count(7));
        x.years(1);
        dueAll("the one", all(1, 1), x.restore(1), x.count(2));
        dueAll("the other", all(1, 0), x.restore(0), x.count(2));
        dueAll("the one again", all(1, 1, 12), x.restore(1), x.count(2), x.count(5));
        dueAll("none to keep", all(STATE, BAD), new TurnipSquires().image(1), new TurnipSquires().image(2));
    }

    private static void restore() {
        promise = 29;
        TurnipSquires x = with(FIVE);
        dueAll("none was kept", all(STATE, STATE, BAD, BAD), x.restore(0), x.restore(1), x.restore(-1), x.restore(2));
        x.years(3);
        x.marry(1, 2);
        x.swap(0, 4);
        x.lean(3);
        x.ground(7);
        x.image(0);
        int[] ranks = turnipsOf(x, 0);
        int[] grown = turnipsOf(x, 1);
        int[] gains = turnipsOf(x, 5);
        x.years(5);
        x.part(1);
        x.swap(4, 3);
        x.lean(3);
        x.ground(2);
        read(x, "g1,1;t0,0,0;");
        x.ground(5);
        dueAll("as it was", all(1, 5, 3, 7, 6, 2), x.restore(0), x.count(1), x.count(2), x.count(3), x.count(4),
                x.count(6));
        dueAll("no act", all(0, STATE), x.count(7), x.undo());
        dueAll("ranks", ranks, turnipsOf(x, 0));
        dueAll("grown", grown, turnipsOf(x, 1));
        dueAll("places", all(4, 1, 2, 3, 0), turnipsOf(x, 2));
        dueAll("turnips in them", all(4, 0), x.place(0), x.place(4));
        dueAll("leaning", all(1, 0, 1, 1, 1), turnipsOf(x, 3));
        dueAll("married", all(NONE, 2, 1, NONE, NONE), turnipsOf(x, 4));
        dueAll("gains", gains, turnipsOf(x, 5));
        dueAll("kinds", all(1, 2, 3, 4, 5), x.kind(0), x.kind(1), x.kind(2), x.kind(3), x.kind(4));
        x.years(2);
        dueAll("the image stays", all(1, 3), x.restore(0), x.count(2));
        due("the other is none yet", STATE, x.restore(1));
    }

    private static void kind() {
        promise = 30;
        TurnipSquires x = with(FIVE);
        dueAll("kinds", all(1, 2, 3, 4, 5), x.kind(0), x.kind(1), x.kind(2), x.kind(3), x.kind(4));
        x.swap(0, 4);
        dueAll("wherever it is", all(1, 5), x.kind(0), x.kind(4));
        dueAll("wrong ones", all(BAD, BAD, BAD), x.kind(-1), x.kind(5), x.kind(LEAST));
    }

    private static void as() {
        promise = 31;
        TurnipSquires x = with(FIVE);
        int[][] kindsOf = {{0, 1}, {0, 1, 2}, {0, 1, 3}, {0, 4}, {0, 4, 5}};
        for (int t = 0; t < 5; t++) {
            for (int kind = 0; kind <= 5; kind++) {
                boolean is = false;
                for (int k : kindsOf[t]) {
                    is |= k == kind;
                }
                dueAll(t + " as " + kind, is ? all(t, 0) : all(KIND, 3), x.as(t, kind), x.status());
            }
        }
        dueAll("wrong ones", all(BAD, BAD, BAD, BAD), x.as(-1, 0), x.as(5, 0), x.as(0, -1), x.as(0, 6));
    }

    /** The five, so that no number is that of the place but of 2: places 3 4 2 0 1. */
    private static TurnipSquires moved() {
        TurnipSquires x = with(FIVE);
        x.swap(0, 3);
        x.swap(1, 4);
        return x;
    }

    private static void ask() {
        promise = 32;
        TurnipSquires x = moved();
        dueAll("sizes", all(4, -13, -994, -100, -194), x.ask(0, 0), x.ask(1, 0), x.ask(2, 0), x.ask(3, 0), x.ask(4, 0));
        dueAll("marks", all(3, 10, -996, 103, 198), x.ask(0, 1), x.ask(1, 1), x.ask(2, 1), x.ask(3, 1), x.ask(4, 1));
        dueAll("wrong ones", all(BAD, BAD, BAD, BAD), x.ask(-1, 0), x.ask(5, 0), x.ask(0, -1), x.ask(0, 2));
        dueAll("the trace stays by them", all(23, 20, 14, 13, 10), traceOf(x));
    }

    private static int[] traceOfAsk(TurnipSquires x, int turnip, int what) {
        x.ask(turnip, what);
        return traceOf(x);
    }

    private static void trace() {
        promise = 33;
        TurnipSquires x = moved();
        dueAll("none yet", all(NONE, NONE), x.trace(0), x.trace(15));
        dueAll("size of a plain one", all(11, 10, 21, 20), traceOfAsk(x, 0, 0));
        dueAll("size of an old one", all(12, 11, 10, 24, 21, 20), traceOfAsk(x, 1, 0));
        dueAll("size of a purple one", all(11, 10, 22, 21, 20), traceOfAsk(x, 2, 0));
        dueAll("size of a fellow", all(13, 10), traceOfAsk(x, 3, 0));
        dueAll("size of a son", all(14, 13, 10), traceOfAsk(x, 4, 0));
        dueAll("mark of a plain one", all(21, 20), traceOfAsk(x, 0, 1));
        dueAll("mark of an old one", all(24, 21, 20), traceOfAsk(x, 1, 1));
        dueAll("mark of a purple one", all(22, 21, 20), traceOfAsk(x, 2, 1));
        dueAll("mark of a fellow", all(23, 20, 13, 10), traceOfAsk(x, 3, 1));
        dueAll("mark of a son", all(23, 20, 14, 13, 10), traceOfAsk(x, 4, 1));
        dueAll("no such number", all(NONE, NONE, NONE, NONE, NONE), x.trace(-1), x.trace(5), x.trace(16),
                x.trace(LEAST), x.trace(MOST));
    }

    private static void count() {
        promise = 34;
        TurnipSquires x = with("g4,6;t1,5,1;o3,9,0;p2,0,1;");
        x.row(2, 0, 0);
        x.row(5, 1, 3);
        x.marry(0, 2);
        x.years(2);
        x.ground(8);
        x.feed('g');
        dueAll("counts", all(2, 3, 2, 8, 6, 2 + 4 + 2, 2, 4, 1), x.count(0), x.count(1), x.count(2), x.count(3),
                x.count(4), x.count(5), x.count(6), x.count(7), x.count(8));
        dueAll("wrong ones", all(BAD, BAD, BAD), x.count(-1), x.count(9), x.count(LEAST));
    }

    private static void status() {
        promise = 35;
        TurnipSquires x = with(FIVE);
        due("none yet", 0, x.status());
        x.as(0, 2);
        due("KIND", 3, x.status());
        x.row(8, 0, 0);
        x.set(-1, 0, 0);
        x.copy(0, 0, 9, 0, 0);
        x.drop(8);
        x.fits(9, 0, 0, 1, 0);
        x.as(0, 6);
        due("BAD leaves it", 3, x.status());
        x.undo();
        x.restore(0);
        x.years(0);
        x.lean(0);
        x.years(1);
        x.ask(0, 0);
        x.image(0);
        read(x, "?");
        read(x, FIVE);
        due("calls without a row leave it", 3, x.status());
        x.drop(0);
        due("NULL", 1, x.status());
        x.row(0, 0, 2);
        due("none by a row", 0, x.status());
        x.set(0, 2, 0);
        due("PLACE", 2, x.status());
        x.set(0, 1, 0);
        due("none by set", 0, x.status());
        x.row(0, 0, -1);
        due("SIZE", 4, x.status());
        x.copy(0, 0, 0, 0, 1);
        due("none by copy", 0, x.status());
        x.row(1, 1, 2);
        x.copy(0, 0, 1, 0, 1);
        due("STORE", 5, x.status());
        x.as(0, 0);
        due("none by as", 0, x.status());
        x.fits(0, 0, 2, 1, 0);
        due("PLACE by fits", 2, x.status());
        x.fits(0, 0, 0, 1, 0);
        due("none by fits", 0, x.status());
        x.fits(0, 6, 0, 1, 0);
        due("NULL by fits", 1, x.status());
        x.drop(1);
        due("none by drop", 0, x.status());
    }
}
