import java.util.Arrays;

/** The boundary cases that the document's terms name: rows, texts, faults, gains, years, acts, and what is foretold. */
public final class TermEdgesTest {
    private static final int NONE = Run.NONE, STATE = Run.STATE, FULL = Run.FULL;
    private static final int NULL = Run.NULL, PLACE = Run.PLACE, STORE = Run.STORE;

    public static void main(String[] args) {
        emptyAndFullRows();
        rowsAnew();
        copiesOverThemselves();
        emptyAndFullTapes();
        numbersOfTheLaw();
        numbersOfATurnip();
        lettersOfATurnip();
        everyBeginning();
        runsOfFigures();
        theEighthTurnip();
        firstFaultFirst();
        fieldsAnew();
        theFullestField();
        halves();
        above();
        leaners();
        ranksOfFellowsAndSons();
        frosts();
        growing();
        actsKept();
        parted();
        actsOfEachSort();
        images();
        squires();
        pairs();
        change();
        votes();
        fractions();
        centuries();
        asks();
        traces();
        Run.end();
    }

    /** What the turnips of a new field answer, one behind the other. */
    private static void dueOfAll(String field, int what, int... want) {
        dueOfAll(new Run("read " + field), what, want);
    }

    private static void dueOfAll(Run run, int what, int... want) {
        int[] got = new int[run.make("count 1")];
        for (int t = 0; t < got.length; t++) {
            got[t] = run.make("turnip " + t + " " + what);
        }
        Run.check("turnip _ " + what + " answered " + Arrays.toString(got) + ", due is " + Arrays.toString(want),
                Arrays.equals(got, want));
    }

    private static void emptyAndFullRows() {
        Run none = new Run().due(0, "count 0").dueEach(NULL, "drop _", 0, 1, 2, 3, 4, 5, 6, 7);
        none.dueEach(NULL, "set _ 0 0", 0, 7).dueEach(NULL, "copy _ 0 0 0 0", 0, 7).due(0, "count 0");
        Run all = new Run().dueEach(40, "row _ 1 40", 0, 1, 2, 3, 4, 5, 6, 7).due(8, "count 0");
        all.due(9, "set 7 39 9").due(40, "copy 7 0 0 0 40").due(PLACE, "copy 7 0 0 1 40").due(40, "copy 7 0 7 0 40");
        all.dueEach(40, "drop _", 0, 1, 2, 3, 4, 5, 6, 7).due(0, "count 0");
        Run empty = new Run().due(0, "row 4 0 0").due(1, "count 0").due(PLACE, "set 4 0 0").due(0, "copy 4 0 4 0 0");
        empty.due(PLACE, "copy 4 0 4 0 1").due(PLACE, "copy 4 1 4 0 0").due(0, "drop 4").due(NULL, "drop 4");
        Run one = new Run().due(1, "row 4 0 1").due(5, "set 4 0 5").due(PLACE, "set 4 1 5").due(1, "copy 4 0 4 0 1");
        one.due(0, "copy 4 1 4 1 0").due(PLACE, "copy 4 0 4 1 1").due(1, "drop 4");
    }

    /** The fellow of rank 0 finds the items that are 0, by grown up to 7; that of rank 9 those that are 9, by any. */
    private static void rowsAnew() {
        Run run = new Run("read g1,0;f0,0,0;f9,0,0;", "row 0 0 40");
        for (int i = 0; i < 40; i++) {
            run.make("set 0 " + i + " 9");
        }
        run.due(1023, "fits 1 0 28 12 1").due(40, "row 0 0 40").due(0, "fits 1 0 39 1 1").due(0, "fits 1 0 0 1 1");
        for (int i = 0; i < 40; i++) {
            run.due(255, "fits 0 0 " + i + " 1 1");
        }
        // In place of a longer one, of another lane, behind one that was dropped.
        run.due(9, "set 0 3 9").due(2, "row 0 0 2").due(PLACE, "set 0 2 0").due(40, "row 0 2 40").due(255, "fits 0 0 3 1 1");
        run.due(300, "set 0 3 300").due(40, "row 0 1 40").due(255, "fits 0 0 3 1 1").due(9, "set 0 39 9").due(40, "drop 0");
        run.due(NULL, "fits 0 0 39 1 1").due(40, "row 0 1 40").due(255, "fits 0 0 39 1 1").due(0, "fits 1 0 39 1 1");
        // Two lanes are told by the lanes that are: not by those that were.
        run.due(40, "row 1 0 40").due(STORE, "copy 0 0 1 0 1").due(40, "row 1 1 40").due(1, "copy 0 0 1 0 1");
        run.due(40, "row 1 0 40").due(40, "drop 1").due(NULL, "copy 0 0 1 0 1").due(NULL, "copy 1 0 0 0 1");
    }

    private static void copiesOverThemselves() {
        // Ranks 0 to 6 stand in seven turnips, so each item of a row can be told.
        String seven = "read g1,0;t0,0,1;t1,0,1;t2,0,1;t3,0,1;t4,0,1;t5,0,1;t6,0,1;";
        String[] row = {seven, "row 0 0 6", "set 0 1 1", "set 0 2 2", "set 0 3 3", "set 0 4 4", "set 0 5 5"};
        items(new Run(row).due(5, "copy 0 0 0 1 5"), 0, 0, 0, 1, 2, 3, 4);
        items(new Run(row).due(5, "copy 0 1 0 0 5"), 0, 1, 2, 3, 4, 5, 5);
        items(new Run(row).due(6, "copy 0 0 0 0 6"), 0, 0, 1, 2, 3, 4, 5);
        items(new Run(row).due(3, "copy 0 0 0 2 3"), 0, 0, 1, 0, 1, 2, 5);
        items(new Run(row).due(1, "copy 0 5 0 0 1"), 0, 5, 1, 2, 3, 4, 5);
        items(new Run(row).due(0, "copy 0 0 0 6 0"), 0, 0, 1, 2, 3, 4, 5);
        Run two = new Run(row).due(8, "row 1 0 8").due(6, "copy 0 0 1 2 6").due(0, "copy 0 6 1 8 0");
        items(two, 1, 0, 0, 0, 1, 2, 3, 4, 5);
        items(two.due(1, "copy 1 7 0 0 1"), 0, 5, 1, 2, 3, 4, 5);
    }

    private static void items(Run run, int row, int... want) {
        for (int i = 0; i < want.length; i++) {
            for (int rank = 0; rank <= 6; rank++) {
                int bits = run.make("fits " + rank + " " + row + " " + i + " 1 0");
                Run.check("item " + i + " of row " + row + " is " + want[i] + ": rank " + rank + " fits by " + bits,
                        (bits & 2) == (rank == want[i] ? 2 : 0));
            }
        }
        run.due(PLACE, "fits 0 " + row + " " + want.length + " 1 0");
    }

    private static void emptyAndFullTapes() {
        new Run().due(0, "count 8").due(-1000100, "field").due(1, "fault").due(0, "count 8");
        Run run = new Run();
        for (int i = 1; i <= 90; i++) {
            run.due(i, "feed 255");
        }
        run.due(90, "count 8").dueEach(FULL, "feed _", 0, 103, 255).dueEach(Run.BAD, "feed _", -1, 256);
        run.due(90, "count 8").due(-1000100, "field").due(0, "count 8").due(1, "read g1,0;t0,0,0;");
        // The longest text that is a field has 77 bytes; more can be fed, but not stand there.
        String longest = "g09,15;" + "s09,09,01;".repeat(7);
        new Run().due(77, "text " + longest).due(7, "field").due(0, "count 8");
        new Run().due(90, "text " + longest + "s09,09,01;xyz").due(FULL, "feed 59").due(-1000177, "field").due(3, "fault");
        new Run().due(90, "text " + longest + ";;;;;;;;;;;;;").due(-1000177, "field").due(1, "fault");
        new Run().due(-1000176, "read " + longest.substring(0, 76)).due(1, "fault");
        new Run().due(90, "text " + "g".repeat(90)).due(-1000101, "field").due(1, "fault");
        new Run().due(90, "text g" + "1".repeat(89)).due(-1000101, "field").due(1, "fault");
    }

    private static void fault(int place, int number, String text) {
        new Run().due(-1000100 - place, "read " + text).due(number, "fault").due(0, "count 1").due(0, "count 8");
    }

    private static void numbersOfTheLaw() {
        for (int v = 0; v <= 120; v++) {
            String ground = "g" + v + ",0;t0,0,0;";
            String frost = "g1," + v + ";t0,0,0;";
            if (v >= 1 && v <= 9) {
                new Run().due(1, "read " + ground).due(v, "count 3").due(v, "turnip 0 5");
            } else {
                fault(1, v > 99 ? 1 : 2, ground);
            }
            if (v <= 15) {
                new Run().due(1, "read " + frost).due(v, "count 4");
            } else {
                fault(3, v > 99 ? 1 : 2, frost);
            }
        }
        new Run().due(1, "read g01,00;t0,0,0;").due(1, "count 3").due(0, "count 4");
        new Run().due(1, "read g09,09;t0,0,0;").due(9, "count 3").due(9, "count 4");
        fault(1, 2, "g00,0;t0,0,0;");
        fault(1, 1, "g001,0;t0,0,0;");
        fault(4, 1, "g01,000;t0,0,0;");
    }

    private static void numbersOfATurnip() {
        for (int v = 0; v <= 101; v++) {
            int number = v > 99 ? 1 : 2;
            if (v <= 9) {
                new Run().due(1, "read g1,0;t" + v + ",0,0;").due(v, "turnip 0 0");
                new Run().due(1, "read g1,0;t0," + v + ",0;").due(v, "turnip 0 1");
            } else {
                fault(6, number, "g1,0;t" + v + ",0,0;");
                fault(8, number, "g1,0;t0," + v + ",0;");
            }
            if (v <= 1) {
                new Run().due(1, "read g1,0;t0,0," + v + ";").due(v, "turnip 0 3");
            } else {
                fault(10, number, "g1,0;t0,0," + v + ";");
            }
        }
        new Run().due(1, "read g1,0;t00,09,01;").due(0, "turnip 0 0").due(9, "turnip 0 1").due(1, "turnip 0 3");
    }

    private static void lettersOfATurnip() {
        String sorts = "?topfs";
        for (int b = 0; b <= 255; b++) {
            char letter = (char) b;
            int kind = sorts.indexOf(letter, 1);
            if (kind > 0) {
                new Run().due(1, "read g1,0;" + letter + "0,0,0;").due(kind, "kind 0");
            } else {
                fault(5, 1, "g1,0;" + letter + "0,0,0;");
            }
            if (b != 'g') {
                fault(0, 1, letter + "1,0;t0,0,0;");
            }
            boolean figure = b >= '0' && b <= '9';
            if (b != ',' && !figure) {
                fault(2, 1, "g1" + letter + "0;t0,0,0;");
                fault(7, 1, "g1,0;t0" + letter + "0,0;");
                fault(9, 1, "g1,0;t0,0" + letter + "0;");
            }
            if (b != ';' && !figure) {
                fault(4, 1, "g1,0" + letter + "t0,0,0;");
                fault(11, 1, "g1,0;t0,0,0" + letter);
            }
            if (!figure) {
                fault(1, 1, "g" + letter + ",0;t0,0,0;");
                fault(3, 1, "g1," + letter + ";t0,0,0;");
                fault(6, 1, "g1,0;t" + letter + ",0,0;");
                fault(8, 1, "g1,0;t0," + letter + ",0;");
                fault(10, 1, "g1,0;t0,0," + letter + ";");
            }
        }
    }

    /** A text that ends too soon has its fault where it ends, unless it is a field already. */
    private static void everyBeginning() {
        String text = "g4,6;t1,5,1;o03,09,00;p2,0,1;";
        for (int n = 0; n < text.length(); n++) {
            String begun = text.substring(0, n);
            boolean field = n == 12 || n == 22;
            if (field) {
                new Run().due(n == 12 ? 1 : 2, "read " + begun);
            } else {
                fault(n, 1, begun);
            }
        }
        new Run().due(3, "read " + text);
    }

    private static void runsOfFigures() {
        fault(1, 1, "g111,0;t0,0,0;");
        fault(1, 1, "g1111,0;t0,0,0;");
        fault(1, 1, "g000,0;t0,0,0;");
        fault(1, 2, "g99,0;t0,0,0;");
        fault(6, 1, "g1,0;t000,0,0;");
        fault(10, 1, "g1,0;t0,0,000;");
        fault(0, 1, "123");
        fault(0, 1, "12g1,0;t0,0,0;");
        fault(5, 1, "g1,0;100t0,0,0;");
        // The end comes behind the figures: the number is read, or has its own fault, first.
        fault(2, 1, "g1");
        fault(3, 1, "g01");
        fault(1, 2, "g10");
        fault(1, 1, "g100");
        fault(10, 2, "g1,0;t0,0,2");
        fault(10, 1, "g1,0;t0,0,222");
    }

    private static void theEighthTurnip() {
        String seven = "g1,0;" + "t0,0,0;".repeat(7);
        new Run().due(7, "read " + seven);
        for (String sort : new String[] {"t", "o", "p", "f", "s"}) {
            fault(54, 3, seven + sort);
            fault(54, 3, seven + sort + "0,0,0;");
            fault(54, 3, seven + sort + "99,,;;??");
        }
        fault(54, 1, seven + "g");
        fault(54, 1, seven + ";");
        fault(54, 1, seven + "0");
        fault(54, 1, seven + "x0,0,0;");
        fault(53, 1, seven.substring(0, 53));
        fault(53, 1, seven.substring(0, 53) + "t0,0,0;");
        // A fault ahead of the eighth comes first.
        fault(52, 2, seven.substring(0, 52) + "2;t0,0,0;");
    }

    private static void firstFaultFirst() {
        fault(1, 2, "g0,16;x9,9,9;");
        fault(3, 2, "g1,16;x");
        fault(5, 1, "g1,0;xx");
        fault(6, 2, "g1,0;t10,10,2;");
        fault(8, 2, "g1,0;t0,10,2;");
        fault(8, 1, "g1,0;t0,,2;");
        fault(1, 1, "g,,;;");
        // The latest fault is the one that is told, also behind a field.
        Run run = new Run().due(0, "fault").due(-1000100, "field").due(1, "fault").due(-1000101, "read g0");
        run.due(2, "fault").due(1, "read g1,0;t0,0,0;").due(2, "fault").due(-1000154, "read g1,0;" + "t0,0,0;".repeat(8));
        run.due(3, "fault").due(1, "count 1").due(-1000101, "read g").due(1, "fault");
    }

    /** A field that is read stands in place of the one before, whole. */
    private static void fieldsAnew() {
        Run run = new Run(Run.FIVE, "marry 0 1", "swap 0 4", "lean 2", "years 5", "image 0", "row 0 0 3", "ask 4 1", "drop 7");
        run.due(2, "read g9,15;p8,7,1;s6,5,0;").due(2, "count 1").due(0, "count 2").due(9, "count 3").due(15, "count 4");
        run.due(14, "count 5").due(0, "count 6").due(0, "count 7").due(0, "count 8").due(1, "count 0").due(STATE, "undo");
        dueOfAll(run, 0, 8, 6);
        dueOfAll(run, 1, 7, 5);
        dueOfAll(run, 2, 0, 1);
        dueOfAll(run, 3, 1, 0);
        dueOfAll(run, 4, NONE, NONE);
        run.due(3, "kind 0").due(5, "kind 1").due(Run.BAD, "kind 2").due(0, "place 0").due(1, "place 1").due(Run.BAD, "place 2");
        run.due(23, "trace 0").due(1, "status").due(STATE, "restore 1").due(1, "restore 0").due(5, "count 2").due(2, "count 6");
    }

    /** All is asked of the most turnips that there can be, and then of fewer in their place. */
    private static void theFullestField() {
        Run run = new Run("read g1,0;" + "t8,0,0;".repeat(6) + "t8,9,0;").due(6, "squire 0").due(1, "squire 1").due(56, "count 5");
        run.due(1, "risen 6 9").due(10, "risen 5 9").due(57, "pairs 1 -1").due(57, "change 1 1").due(20, "power 6");
        run.due(4, "blocs 0").due(15, "blocs 1").due(1, "chance 6 9 1 5 0").due(6, "place 6").due(6, "as 6 1");
        run.due(12, "ask 6 1").due(20, "ask 6 0");
        // Grounds 5 and 8, and none stands above another.
        Run low = new Run("read g1,0;" + "t0,0,0;".repeat(7)).due(35, "drawn 1 1 1").due(0, "drawn 1 1 0");
        low.due(21, "drawn 2 1 1").due(7, "drawn 2 1 0").due(63, "drawn 60 1 0").due(63, "drawn 60 1 1");
        low.due(2, "marry 0 6").due(4, "marry 1 5").due(6, "marry 2 4").due(6, "count 6").due(7, "drawn 2 1 0");
        Run fewer = new Run("read g1,0;" + "t9,9,0;".repeat(7), "marry 0 6", "marry 1 2", "read g1,0;t0,0,0;t1,0,0;");
        fewer.due(1, "count 5").due(0, "count 6").due(NONE, "squire 0").due(1, "blocs 0").due(2, "blocs 1").due(2, "power 1");
        fewer.due(0, "power 0").due(1, "pairs 1 -1").due(1, "change 1 1").due(10, "drawn 1 1 1").due(1, "drawn 1 1 0");
        fewer.due(1, "turnip 0 5").due(1, "turnip 1 5").dueEach(Run.BAD, "turnip _ 0", 2, 3, 6).dueEach(Run.BAD, "place _", 2, 6);
    }

    private static void halves() {
        int[] half = {0, 0, 1, 1, 2, 2, 3, 3, 4, 4};
        for (int ground = 1; ground <= 9; ground++) {
            dueOfAll("g" + ground + ",14;o0,0,0;", 5, half[ground]);
            dueOfAll("g" + ground + ",1;o0,0,0;", 5, ground);
            // Married to a fellow of rank 3 the plain one has half, cut.
            Run run = new Run("read g" + ground + ",0;t0,0,0;f3,0,0;", "marry 0 1");
            dueOfAll(run, 5, half[ground], half[ground]);
        }
        // The half of what an old one gains in a pair is cut first: 1 and 3, then 2.
        dueOfAll(new Run("read g3,0;o0,0,0;t0,0,0;", "marry 0 1"), 5, 2, 2);
        // 2 and 5: 3; 4 and 9: 6.
        dueOfAll(new Run("read g5,0;t0,0,0;o0,0,0;", "marry 1 0"), 5, 3, 3);
        dueOfAll(new Run("read g9,0;o0,0,0;p0,0,0;", "marry 0 1"), 5, 6, 6);
        // Leaning is not halved: 4 and 1 more for each that leans to one above, though none is married to that one.
        dueOfAll(new Run("read g4,0;t0,0,1;t5,0,0;t0,0,0;", "marry 0 2"), 5, 5, 4, 5);
        dueOfAll(new Run("read g1,0;t0,0,1;f3,0,0;", "marry 0 1"), 5, 1, 0);
        dueOfAll(new Run("read g9,0;p0,0,0;t1,0,1;", "marry 0 1"), 5, 9, 9);
        dueOfAll(new Run("read g8,0;p0,0,0;t1,0,1;f0,0,0;", "marry 0 2"), 5, 12, 8, 13);
        // Two pairs, each by itself.
        dueOfAll(new Run("read g1,0;f0,0,0;f9,0,0;t0,0,0;f9,0,0;", "marry 0 1", "marry 3 2"), 5, 1, 1, 1, 0);
    }

    private static void above() {
        // Of a rank above its own: one more counts, the same and one less do not; at the ends there is one neighbour.
        dueOfAll("g5,0;p4,0,0;p5,0,1;p4,0,1;", 5, 6, 5, 6);
        dueOfAll("g5,0;p4,0,0;p4,0,1;p4,9,1;", 5, 5, 5, 5);
        dueOfAll("g5,0;p5,0,0;p4,0,0;p5,0,1;", 5, 5, 8, 5);
        dueOfAll("g5,0;p0,0,0;", 5, 5);
        dueOfAll("g5,0;p0,0,1;", 5, 5);
        // Two places off is not beside.
        dueOfAll("g5,0;p0,0,0;p0,0,1;t9,0,0;", 5, 5, 7, 5);
        dueOfAll(new Run("read g5,0;p0,0,0;p0,0,1;t9,0,0;", "swap 1 2"), 5, 6, 6, 5);
        dueOfAll(new Run("read g5,0;p0,0,0;p0,0,1;t9,0,0;", "swap 1 2", "lean 1"), 5, 6, 7, 5);
    }

    private static void leaners() {
        // The one in the first place cannot lean further down, nor that in the last one further up.
        dueOfAll("g5,0;t0,0,0;t9,0,0;t0,0,1;", 5, 5, 5, 5);
        dueOfAll("g5,0;t0,0,1;t9,0,0;t0,0,0;", 5, 6, 5, 6);
        dueOfAll("g5,0;t0,0,1;t1,0,1;t1,0,0;t2,0,0;", 5, 6, 5, 5, 5);
        dueOfAll("g5,0;t9,0,1;t9,0,0;", 5, 5, 5);
        dueOfAll("g5,0;t8,0,1;t9,0,0;", 5, 6, 5);
        // By places, not by numbers.
        dueOfAll(new Run("read g5,0;t0,0,1;t9,0,0;", "swap 0 1"), 5, 5, 5);
        dueOfAll(new Run("read g5,0;t0,0,0;t9,0,0;", "swap 0 1"), 5, 6, 5);
        dueOfAll(new Run("read g5,0;t0,0,1;t0,0,0;t9,0,0;", "swap 1 2"), 5, 6, 6, 5);
    }

    private static void ranksOfFellowsAndSons() {
        for (int rank = 0; rank <= 9; rank++) {
            int gain = rank < 3 ? 10 : 0;
            dueOfAll("g5,0;f" + rank + ",0,0;", 5, gain);
            dueOfAll("g5,0;s" + rank + ",0,0;", 5, gain);
            dueOfAll("g5,0;t9,0,0;f" + rank + ",0,1;", 5, 5, gain);
            dueOfAll("g5,0;t9,0,0;s" + rank + ",0,1;", 5, 5, rank < 9 ? 10 : 0);
            dueOfAll("g5,0;s" + rank + ",0,0;t9,0,1;", 5, rank < 9 ? 10 : 0, 5);
            dueOfAll("g5,0;t" + rank + ",0,0;s" + rank + ",0,1;", 5, 5, gain);
            dueOfAll("g5,0;t9,0,0;t" + rank + ",0,1;s" + rank + ",0,1;", 5, 5, 5, gain);
        }
        // Two above it double the ground but once; it leans towards one of them.
        dueOfAll("g5,0;t4,0,0;s3,0,1;t4,0,0;", 5, 5, 11, 5);
        // It rises to 3 within a year and has had all of it.
        Run run = new Run("read g9,0;f2,9,0;").due(4, "years 1").due(7, "turnip 0 1").due(4, "years 24").due(7, "turnip 0 1");
        run.due(0, "turnip 0 5");
    }

    private static void frosts() {
        // Each bit by itself, in years 0 to 8: those that leave its number by 4.
        for (int bit = 0; bit < 4; bit++) {
            Run run = new Run("read g8," + (1 << bit) + ";o0,0,0;");
            for (int year = 0; year <= 8; year++) {
                run.due(year % 4 == bit ? 8 : 4, "turnip 0 5");
                run.due(year, "count 2").make("years 1");
            }
        }
        Run none = new Run("read g8,0;o0,0,0;");
        Run all = new Run("read g8,15;o0,0,0;");
        for (int year = 0; year <= 4; year++) {
            none.due(4, "turnip 0 5").make("years 1");
            all.due(8, "turnip 0 5").make("years 1");
        }
    }

    /** What the first one has come to by a year: foretold, and then in truth. */
    private static void year(String turnips, int ground, int rank, int grown) {
        Run run = new Run("read g" + ground + ",0;" + turnips).due(rank, "ahead 0 1 0").due(grown, "ahead 0 1 1");
        run.due(0, "count 2").make("years 1");
        run.due(rank, "turnip 0 0").due(grown, "turnip 0 1").due(1, "count 2");
    }

    private static void growing() {
        year("t0,8,0;", 1, 0, 9);
        year("t0,9,0;", 1, 1, 0);
        year("t0,0,0;", 9, 0, 9);
        year("t0,9,0;", 9, 1, 8);
        year("f0,1,0;", 9, 1, 9);
        year("f0,2,0;", 9, 2, 0);
        year("f2,9,0;", 9, 4, 7);
        year("t8,9,0;", 1, 9, 0);
        year("t8,9,0;", 9, 9, 8);
        year("t9,0,0;", 9, 9, 9);
        year("t9,8,0;", 1, 9, 9);
        year("t9,9,0;", 1, 9, 9);
        year("t9,9,0;", 9, 9, 9);
        year("t9,8,0;", 9, 9, 9);
        // The son gains 18, beside one of rank 9: from 7 it rises by two ranks, from 8 by one, whatever is left.
        year("s7,9,0;t9,0,0;", 9, 9, 7);
        year("s7,1,0;t9,0,0;", 9, 8, 9);
        year("s8,9,0;t9,0,0;", 9, 9, 9);
        year("s8,1,0;t9,0,0;", 9, 9, 9);
        year("s8,0,0;t9,0,0;", 9, 9, 8);
    }

    private static void actsKept() {
        Run run = new Run(Run.FIVE).due(STATE, "undo").due(0, "count 7");
        // Grounds 1, 2, .. 9, 1, ..: what act i has made is i less 1 by 9, and 1.
        for (int i = 1; i <= 26; i++) {
            run.make("ground " + ((i - 1) % 9 + 1));
            run.due(Math.min(i, 24), "count 7");
        }
        for (int i = 25; i >= 2; i--) {
            run.due(i - 2, "undo").due((i - 1) % 9 + 1, "count 3");
        }
        run.due(STATE, "undo").due(0, "count 7").due(2, "count 3");
        // Some undone, and others in their place, round the end of all that are kept.
        Run round = new Run("read g1,0;t0,0,0;").due(2, "years 24").due(24, "count 7");
        for (int i = 23; i >= 14; i--) {
            round.due(i, "undo").due(i, "count 2");
        }
        for (int i = 15; i <= 30; i++) {
            round.due(i % 2, "lean 0");
            round.due(Math.min(i, 24), "count 7");
        }
        for (int i = 29; i >= 14; i--) {
            round.due(i - 6, "undo").due(i % 2, "turnip 0 3").due(14, "count 2");
        }
        for (int i = 13; i >= 6; i--) {
            round.due(i - 6, "undo").due(i, "count 2");
        }
        round.due(STATE, "undo").due(6, "count 2").due(0, "count 7");
        // By 24 years all else is forgotten.
        Run many = new Run("read g1,0;t0,0,0;", "ground 5").due(9, "years 24").due(24, "count 7");
        for (int i = 23; i >= 0; i--) {
            many.due(i, "undo").due(i, "count 2");
        }
        many.due(STATE, "undo").due(5, "count 3");
    }

    private static void parted() {
        Run run = new Run("read g1,0;" + "t0,0,0;".repeat(7));
        run.due(2, "marry 0 6").due(4, "marry 5 1").due(6, "marry 2 4").due(6, "count 6").dueEach(STATE, "marry 3 _", 0, 1, 2, 4, 5, 6);
        // Parted by either, both are free: of one another, and for others.
        run.due(0, "part 6").due(NONE, "turnip 6 4").due(NONE, "turnip 0 4").due(4, "count 6").dueEach(STATE, "part _", 0, 3, 6);
        run.due(1, "part 5").due(NONE, "turnip 5 4").due(NONE, "turnip 1 4").due(2, "count 6").dueEach(STATE, "part _", 1, 5);
        run.due(4, "turnip 2 4").due(2, "turnip 4 4").due(4, "marry 1 0").due(6, "marry 6 3").due(NONE, "turnip 5 4");
        run.due(7, "count 7").due(6, "undo").due(5, "undo").due(2, "count 6").due(4, "undo").due(1, "turnip 5 4").due(5, "turnip 1 4");
    }

    /** Each act and what is behind its undoing; what is refused is none. */
    private static void actsOfEachSort() {
        Run run = new Run(Run.FIVE);
        run.due(1, "lean 3").due(0, "lean 3").due(4, "ground 4").due(4, "ground 4").due(4, "count 7");
        run.due(3, "undo").due(2, "undo").due(1, "undo").due(1, "turnip 3 3").due(0, "undo").due(0, "turnip 3 3");
        run.due(2, "marry 1 3").due(Run.BAD, "marry 1 1").due(STATE, "marry 1 2").due(1, "count 7").due(3, "part 1");
        run.due(STATE, "part 1").due(2, "count 7").due(1, "undo").due(3, "turnip 1 4").due(1, "turnip 3 4");
        run.due(2, "count 6").due(0, "undo").due(0, "count 6").due(NONE, "turnip 1 4").due(NONE, "turnip 3 4");
        run.due(4, "swap 0 4").due(0, "swap 0 4").due(2, "count 7").due(1, "undo").due(0, "place 4").due(4, "place 0");
        run.due(0, "undo").due(0, "place 0").due(4, "place 4").due(STATE, "undo");
        run.due(12, "years 1").due(0, "undo").due(0, "count 2").due(9, "count 5").due(STATE, "undo");
        // What is refused is no act, nor what only tells.
        run.due(Run.BAD, "years 0").due(Run.BAD, "years 25").due(Run.BAD, "ground 0").due(Run.BAD, "ground 10");
        run.due(Run.BAD, "lean 5").due(Run.BAD, "swap 2 2").due(STATE, "part 2").due(1, "image 0").due(0, "count 7");
        // A fault leaves the acts, a field and an image that is brought back do not.
        run.due(4, "ground 9").due(-1000100, "field").due(1, "count 7").due(0, "undo").due(4, "count 3");
        run.due(4, "ground 9").due(1, "restore 0").due(0, "count 7").due(STATE, "undo").due(4, "count 3");
        run.due(4, "ground 9").due(1, "read g7,0;t0,0,0;").due(0, "count 7").due(STATE, "undo").due(7, "count 3");
    }

    private static void images() {
        Run run = new Run().due(STATE, "image 0").due(STATE, "image 1").due(STATE, "restore 0").due(STATE, "restore 1");
        run.make("read g1,0;t0,0,0;");
        run.due(STATE, "restore 0").due(STATE, "restore 1").due(1, "image 1").due(STATE, "restore 0").due(1, "ground 2");
        run.due(1, "restore 1").due(1, "count 3").due(1, "ground 3").due(1, "image 0").due(3, "ground 4");
        run.due(1, "restore 1").due(1, "count 3").due(1, "restore 0").due(3, "count 3").due(1, "restore 0").due(3, "count 3");
        // Kept anew it is the later one; images stay behind a field, a fault, an undoing.
        run.due(3, "ground 5").due(1, "image 0").due(0, "undo").due(3, "count 3").due(1, "restore 0").due(5, "count 3");
        run.due(-1000100, "field").due(2, "read g8,0;f0,0,0;s0,0,0;").due(1, "restore 0").due(5, "count 3").due(1, "count 1");
        run.due(2, "read g8,0;f0,0,0;s0,0,0;").due(1, "restore 1").due(1, "count 3").due(1, "kind 0").due(Run.BAD, "kind 1");
    }

    private static void squires() {
        // The first in time, of those in one year the least; whoever has rank 9 has it behind 0 years.
        new Run("read g9,0;t8,0,0;t8,1,0;t8,9,1;").due(1, "squire 0").due(1, "squire 1");
        new Run("read g9,0;t8,0,0;t9,0,0;t9,9,1;").due(1, "squire 0").due(0, "squire 1");
        new Run("read g9,0;t8,0,0;t8,0,0;").due(0, "squire 0").due(2, "squire 1");
        // By 60 years just so, by 61 too late.
        new Run("read g1,0;t3,0,0;").due(0, "squire 0").due(60, "squire 1").due(60, "risen 0 9").due(9, "ahead 0 60 0");
        new Run("read g1,0;t2,9,0;").due(NONE, "squire 0").due(NONE, "squire 1").due(NONE, "risen 0 9");
        new Run("read g1,0;t2,9,0;").due(8, "ahead 0 60 0").due(9, "ahead 0 60 1").due(51, "risen 0 8");
        new Run("read g1,0;t2,9,0;", "years 1").due(60, "squire 1").due(60, "risen 0 9");
        new Run("read g9,0;f3,0,0;").due(NONE, "squire 1").due(NONE, "risen 0 4").due(0, "risen 0 3").due(0, "risen 0 0");
    }

    private static void pairs() {
        // None rises whoever marries: nobody does. Where one pair is as good as another, the first has the least mate.
        new Run("read g1,0;t0,0,0;t0,0,0;").due(0, "pairs 1 -1").due(NONE, "pairs 1 0").due(NONE, "pairs 1 1");
        Run three = new Run("read g5,0;f3,5,0;f3,5,0;f0,5,0;").due(8, "pairs 1 -1");
        three.due(NONE, "pairs 1 0").due(2, "pairs 1 1").due(1, "pairs 1 2");
        Run other = new Run("read g5,0;f0,5,0;f3,5,0;f3,5,0;").due(8, "pairs 1 -1");
        other.due(1, "pairs 1 0").due(0, "pairs 1 1").due(NONE, "pairs 1 2");
        // Fewer pairs come first, where the mate of 0 is nobody.
        Run four = new Run("read g5,0;t0,0,0;t0,0,0;f0,5,0;f3,5,0;").due(5, "pairs 1 -1");
        four.due(NONE, "pairs 1 0").due(NONE, "pairs 1 1").due(3, "pairs 1 2").due(2, "pairs 1 3");
        // Who is married now counts for nothing, and stays so.
        four.due(2, "marry 0 3").due(5, "pairs 1 -1").due(NONE, "pairs 1 0").due(3, "pairs 1 2").due(3, "turnip 0 4");
        new Run("read g1,0;t0,9,0;").due(1, "pairs 1 -1").due(NONE, "pairs 1 0").due(2, "pairs 20 -1");
        // Seven: three pairs, and the one of rank 3 without need of any is left.
        Run seven = new Run("read g5,0;t3,5,0;" + "f3,5,0;".repeat(3) + "f0,5,0;".repeat(3)).due(19, "pairs 1 -1");
        seven.due(NONE, "pairs 1 0").due(4, "pairs 1 1").due(5, "pairs 1 2").due(6, "pairs 1 3").due(1, "pairs 1 4");
        seven.due(2, "pairs 1 5").due(3, "pairs 1 6");
    }

    private static void change() {
        Run one = new Run("read g1,0;t0,0,0;").due(NONE, "change 1 0").due(NONE, "change 30 1");
        one.due(Run.BAD, "change 0 0").due(Run.BAD, "change 31 1").due(Run.BAD, "change 1 2");
        new Run("read g1,0;t0,0,0;t0,0,0;").due(1, "change 1 0").due(0, "change 1 1");
        // Of seven alike the first pair; else the first that brings the purple one beside, and towards, the one above.
        String seven = "read g1,0;" + "t0,0,0;".repeat(7);
        new Run(seven).due(1, "change 1 0").due(0, "change 1 1");
        new Run("read g4,0;t5,0,0;t0,0,1;t0,0,1;t0,0,1;t0,0,1;p0,5,0;t0,0,1;").due(6, "change 1 1").due(4, "change 1 0");
        new Run("read g4,0;t0,0,0;t0,0,0;t0,0,0;t0,0,0;t5,0,0;t0,0,0;p0,5,1;").due(6, "change 1 1").due(36, "change 1 0");
        new Run("read g4,0;t5,0,0;t0,0,0;t0,0,0;t0,0,0;t5,0,0;t0,0,0;p0,4,1;").due(11, "change 1 1").due(36, "change 1 0");
        // To change no places is not one of the ways.
        new Run("read g4,0;t9,0,0;p0,4,0;").due(9, "change 1 1").due(1, "change 1 0").due(10, "years 1");
    }

    private static void votes() {
        // Half of all does not win, one vote more does.
        new Run("read g1,0;t2,0,0;t2,0,0;").due(1, "power 0").due(1, "power 1").due(2, "blocs 0").due(3, "blocs 1");
        new Run("read g1,0;t3,0,0;t2,0,0;").due(2, "power 0").due(0, "power 1").due(1, "blocs 0").due(1, "blocs 1");
        new Run("read g1,0;t1,0,0;t2,0,0;t3,0,0;").due(1, "power 0").due(1, "power 1").due(3, "power 2").due(2, "blocs 0")
                .due(5, "blocs 1");
        new Run("read g1,0;t1,0,0;t2,0,0;t4,0,0;").due(0, "power 0").due(4, "power 2").due(1, "blocs 0").due(4, "blocs 1");
        // None has votes: nobody wins. One alone with votes wins alone.
        new Run("read g1,0;t0,9,0;").due(0, "power 0").due(NONE, "blocs 0").due(NONE, "blocs 1");
        new Run("read g1,0;t1,0,0;").due(1, "power 0").due(1, "blocs 0").due(1, "blocs 1");
        Run last = new Run("read g1,0;" + "t0,0,0;".repeat(6) + "t1,0,0;").due(64, "power 6").due(0, "power 0");
        last.due(1, "blocs 0").due(64, "blocs 1");
        Run nines = new Run("read g1,0;" + "t9,0,0;".repeat(7)).due(20, "power 0").due(4, "blocs 0").due(15, "blocs 1");
        nines.due(63, "count 5");
        new Run("read g1,0;" + "t9,0,0;".repeat(6)).due(10, "power 0").due(4, "blocs 0").due(15, "blocs 1");
        // Of several that are few enough the least.
        new Run("read g1,0;t1,0,0;t3,0,0;t3,0,0;t1,0,0;").due(2, "blocs 0").due(6, "blocs 1");
        new Run("read g1,0;t3,0,0;t1,0,0;t1,0,0;t3,0,0;").due(2, "blocs 0").due(9, "blocs 1");
        new Run("read g1,0;t2,0,0;t2,0,0;t3,0,0;").due(2, "blocs 0").due(3, "blocs 1");
    }

    private static void chanceOf(int above, int below, Run run, String call) {
        run.due(above, "chance " + call + " 0").due(below, "chance " + call + " 1");
    }

    private static void fractions() {
        // It gains 1, in frost 3; it lacks 3.
        Run run = new Run("read g3,0;o0,7,0;");
        int[][] once = {{0, 1}, {1, 10}, {1, 5}, {3, 10}, {2, 5}, {1, 2}, {3, 5}, {7, 10}, {4, 5}, {9, 10}, {1, 1}};
        for (int c = 0; c <= 10; c++) {
            chanceOf(once[c][0], once[c][1], run, "0 1 1 " + c);
            chanceOf(1, 1, run, "0 0 0 " + c);
            chanceOf(0, 1, run, "0 1 0 " + c);
            chanceOf(1, 1, run, "0 0 8 " + c);
            chanceOf(0, 1, run, "0 9 8 " + c);
            chanceOf(1, 1, run, "0 1 3 " + c);
        }
        // In two years one with frost is enough.
        chanceOf(3, 4, run, "0 1 2 5");
        chanceOf(19, 100, run, "0 1 2 1");
        chanceOf(9, 25, run, "0 1 2 2");
        chanceOf(24, 25, run, "0 1 2 8");
        // FROST and the year count for nothing.
        Run frosty = new Run("read g3,15;o0,7,0;");
        chanceOf(0, 1, frosty, "0 1 1 0");
        chanceOf(1, 2, frosty, "0 1 1 5");
        chanceOf(1, 5, frosty, "0 1 1 2");
        Run later = new Run("read g3,14;o0,6,0;", "years 1");
        chanceOf(0, 1, later, "0 1 1 0");
        chanceOf(1, 1, later, "0 1 1 10");
    }

    private static void centuries() {
        // Behind no years all is as it is, whatever the seed.
        Run two = new Run("read g9,0;p0,7,1;t1,8,1;");
        two.due(15, "drawn 0 1 1").due(15, "drawn 0 999999 1").due(1, "drawn 0 3 0").due(1, "drawn 0 12 0");
        // X is 50421: by 3 it leaves 0, by 2 1, its half 0: they change places; the ground is 4.
        Run run = new Run("read g9,0;p0,0,1;t1,0,1;").due(9, "drawn 1 3 1").due(1, "drawn 1 3 0");
        // X is 201684: by 3 it leaves 0, but both are turnip 0; the ground is 4.
        run.due(10, "drawn 1 12 1").due(1, "drawn 1 12 0");
        // X is 33614: by 3 it leaves 2; the ground is 9. X is 16807: by 3 it leaves 1; the ground is 5.
        run.due(10, "drawn 1 2 1").due(2, "drawn 1 2 0").due(12, "drawn 1 1 1").due(1, "drawn 1 1 0");
        run.due(9, "count 3").due(0, "place 0").due(0, "count 2").due(0, "count 7");
        // One alone changes with nobody.
        new Run("read g9,0;p0,0,1;").due(4, "drawn 1 3 1").due(0, "drawn 1 3 0");
        // Grounds 5 and 8, by the years' frost from this year on.
        new Run("read g9,0;o0,0,0;").due(6, "drawn 2 1 1");
        new Run("read g9,1;o0,0,0;").due(9, "drawn 2 1 1");
        new Run("read g9,2;o0,0,0;").due(0, "drawn 2 1 1").due(1, "drawn 2 1 0");
        new Run("read g1,2;o0,0,0;", "years 1").due(5, "drawn 1 1 1").due(9, "drawn 2 1 1");
        new Run("read g9,15;o0,0,0;").due(3, "drawn 2 1 1").due(1, "drawn 2 1 0");
    }

    private static void asks() {
        Run run = new Run("read g1,0;t9,0,0;o9,0,0;p9,0,0;f9,0,0;s9,0,0;t0,0,0;s0,0,0;");
        int[] sizes = {9, -13, -987, -91, -182, 10, -200};
        int[] marks = {0, 4, -996, 94, 186, 10, 206};
        for (int t = 0; t < 7; t++) {
            run.due(sizes[t], "ask " + t + " 0").due(marks[t], "ask " + t + " 1");
        }
        // The place counts for those who ask for it, the number for all.
        run.due(6, "swap 0 6").due(15, "ask 0 0").due(6, "ask 0 1").due(206, "ask 6 1").due(-200, "ask 6 0");
        // A longer trace leaves nothing in a shorter one; a refused ask leaves it all.
        run.due(-13, "ask 1 0").due(20, "trace 5").due(NONE, "trace 6").due(-91, "ask 3 0").due(10, "trace 1");
        run.dueEach(NONE, "trace _", 2, 3, 4, 5, 6, 15, 16, -1).due(Run.BAD, "ask 7 0").due(Run.BAD, "ask 0 2");
        run.due(13, "trace 0").due(10, "trace 1").due(0, "status");
        // Nor does a field that is read.
        run.due(1, "read g1,0;t0,0,0;").due(13, "trace 0").due(0, "ask 0 0").due(11, "trace 0").due(NONE, "trace 4");
    }

    private static void trace(Run run, String ask, int... want) {
        run.make(ask);
        for (int i = -1; i <= 16; i++) {
            run.due(i >= 0 && i < want.length ? want[i] : NONE, "trace " + i);
        }
    }

    /** Each body that begins, in the order in which they begin; the longest are far from 16. */
    private static void traces() {
        Run run = new Run(Run.FIVE).dueEach(NONE, "trace _", -1, 0, 15, 16);
        trace(run, "ask 0 0", 11, 10, 21, 20);
        trace(run, "ask 1 0", 12, 11, 10, 24, 21, 20);
        trace(run, "ask 2 0", 11, 10, 22, 21, 20);
        trace(run, "ask 3 0", 13, 10);
        trace(run, "ask 4 0", 14, 13, 10);
        trace(run, "ask 0 1", 21, 20);
        trace(run, "ask 1 1", 24, 21, 20);
        trace(run, "ask 2 1", 22, 21, 20);
        trace(run, "ask 3 1", 23, 20, 13, 10);
        trace(run, "ask 4 1", 23, 20, 14, 13, 10);
    }
}
