import java.util.stream.Stream;

/** Each argument of each call: its least and its greatest value, the next ones beyond them, and the farthest. */
public final class ArgumentEdgesTest {
    private static final int NONE = Run.NONE, BAD = Run.BAD, NULL = Run.NULL, PLACE = Run.PLACE, SIZE = Run.SIZE;
    private static final String FIVE = Run.FIVE;

    /** The most turnips, with ranks 0 to 6. */
    private static final String SEVEN = "read g1,0;t0,0,0;t1,0,0;t2,0,0;t3,0,0;t4,0,0;t5,0,0;t6,0,0;";
    /** The fewest. */
    private static final String ONE = "read g1,0;t5,3,1;";

    public static void main(String[] args) {
        rows();
        fields();
        turnipsOfFive();
        turnipsOfSeven();
        turnipsOfOne();
        foretold();
        fits();
        bits();
        chance();
        drawn();
        asked();
        Run.end();
    }

    /** Setup calls, one text a call. */
    private static String[] by(String... calls) {
        return calls;
    }

    /**
     * The argument _ of a call, made of a new object each time behind the setup: what is due for its least and its
     * greatest value, and for what is below and above these.
     */
    private static void range(String[] setup, String call, int least, int dueLeast, int most, int dueMost, int... beyond) {
        int below = beyond.length > 0 ? beyond[0] : BAD;
        int above = beyond.length > 1 ? beyond[1] : below;
        new Run(setup).due(dueLeast, Run.put(call, least));
        new Run(setup).due(dueMost, Run.put(call, most));
        new Run(setup).dueEach(below, call, least - 1, Run.MIN);
        new Run(setup).dueEach(above, call, most + 1, Run.MAX);
    }

    private static void rows() {
        String[] none = by();
        range(none, "row _ 2 40", 0, 40, 7, 40);
        range(none, "row 3 _ 40", 0, 40, 2, 40);
        range(none, "row 3 1 _", 0, 0, 40, 40, SIZE, BAD);
        String[] ends = by("row 0 0 40", "row 7 0 40", "row 3 0 0");
        range(ends, "set _ 0 9", 0, 9, 7, 9);
        range(ends, "set 7 _ 9", 0, 9, 39, 9, PLACE);
        range(by("row 4 2 1"), "set 4 _ 9", 0, 9, 0, 9, PLACE);
        new Run(ends).dueEach(PLACE, "set 3 _ 9", -1, 0, 1);
        new Run("row 0 0 1").due(-128, "set 0 0 -128").due(127, "set 0 0 127").due(127, "set 0 0 -129")
                .due(-128, "set 0 0 128").due(0, "set 0 0 min").due(-1, "set 0 0 max");
        new Run("row 0 1 1").due(-32768, "set 0 0 -32768").due(32767, "set 0 0 32767").due(32767, "set 0 0 -32769")
                .due(-32768, "set 0 0 32768").due(0, "set 0 0 min").due(-1, "set 0 0 max");
        new Run("row 0 2 1").due(Run.MIN, "set 0 0 min").due(Run.MAX, "set 0 0 max").due(32768, "set 0 0 32768");
        range(ends, "copy _ 0 0 0 2", 0, 2, 7, 2);
        range(ends, "copy 0 0 _ 0 2", 0, 2, 7, 2);
        range(ends, "copy 0 _ 7 0 1", 0, 1, 39, 1, PLACE);
        range(ends, "copy 0 0 7 _ 1", 0, 1, 39, 1, PLACE);
        range(ends, "copy 0 _ 7 0 0", 0, 0, 40, 0, PLACE);
        range(ends, "copy 0 0 7 _ 0", 0, 0, 40, 0, PLACE);
        range(ends, "copy 0 0 7 0 _", 0, 0, 40, 40, PLACE);
        range(ends, "copy 0 1 7 0 _", 0, 0, 39, 39, PLACE);
        range(ends, "copy 0 0 7 1 _", 0, 0, 39, 39, PLACE);
        range(ends, "copy 3 0 0 0 _", 0, 0, 0, 0, PLACE);
        range(ends, "copy 0 0 3 0 _", 0, 0, 0, 0, PLACE);
        range(ends, "drop _", 0, 40, 7, 40);
    }

    private static void fields() {
        range(by(), "feed _", 0, 1, 255, 1);
        range(by("text g4"), "feed _", 0, 3, 255, 3);
        // A year brings 2 + 4 + 2 + 1 + 3 ranks; 24 lift all but the fellow and the son to rank 9.
        range(by(FIVE), "years _", 1, 12, 24, new Run(FIVE).answers(Stream.generate(() -> "years 1").limit(24)
                .toArray(String[]::new))[23]);
        range(by(FIVE), "ground _", 1, 4, 9, 4);
        range(by(FIVE), "image _", 0, 1, 1, 1);
        range(by(FIVE, "image 0", "image 1"), "restore _", 0, 1, 1, 1);
        range(by(FIVE, "text g4", "row 0 0 3"), "count _", 0, 1, 8, 2);
    }

    private static void turnipsOfFive() {
        String[] five = by(FIVE);
        range(five, "marry _ 2", 0, 2, 4, 2);
        range(five, "marry 2 _", 0, 2, 4, 2);
        range(by(FIVE, "marry 0 4"), "part _", 0, 4, 4, 0);
        range(five, "swap _ 2", 0, 2, 4, 2);
        range(five, "swap 2 _", 0, 0, 4, 4);
        range(five, "lean _", 0, 0, 4, 0);
        range(five, "turnip _ 0", 0, 1, 4, 3);
        range(five, "turnip 0 _", 0, 1, 5, 5);
        range(by(FIVE, "swap 0 4"), "place _", 0, 4, 4, 0);
        range(five, "ahead _ 0 0", 0, 1, 4, 3);
        range(five, "risen _ 3", 0, risenOf(FIVE, 0, 3), 4, 0);
        range(five, "pairs 1 _", -1, 12, 4, NONE);
        range(five, "power _", 0, 0, 4, 8);
        range(by(FIVE, "row 0 0 1", "set 0 0 1"), "fits _ 0 0 1 1", 0, 31, 4, 0);
        range(five, "chance _ 0 0 0 0", 0, 1, 4, 1);
        range(five, "kind _", 0, 1, 4, 5);
        range(five, "as _ 0", 0, 0, 4, 4);
        range(five, "ask _ 0", 0, 1, 4, -194);
    }

    /** How many years one by one bring a rank. */
    private static int risenOf(String field, int turnip, int rank) {
        Run run = new Run(field);
        for (int n = 0; n <= 60; n++) {
            if (run.make("turnip " + turnip + " 0") >= rank) {
                return n;
            }
            run.make("years 1");
        }
        return NONE;
    }

    private static void turnipsOfSeven() {
        String[] seven = by(SEVEN);
        range(seven, "marry _ 2", 0, 2, 6, 2);
        range(seven, "marry 2 _", 0, 2, 6, 2);
        range(by(SEVEN, "marry 0 6"), "part _", 0, 6, 6, 0);
        range(seven, "swap _ 2", 0, 2, 6, 2);
        range(seven, "swap 2 _", 0, 0, 6, 6);
        range(seven, "lean _", 0, 1, 6, 1);
        range(seven, "turnip _ 0", 0, 0, 6, 6);
        range(by(SEVEN, "swap 0 6"), "place _", 0, 6, 6, 0);
        range(seven, "ahead _ 10 0", 0, 1, 6, 7);
        range(seven, "risen _ 6", 0, 60, 6, 0);
        range(seven, "pairs 10 _", -1, 28, 6, NONE);
        // With the votes of 6 win those of the others that have 5 to 10: 18 sets of 1 to 5, with 0 or without it.
        range(seven, "power _", 0, 0, 6, 36);
        range(by(SEVEN, "row 0 0 1", "set 0 0 6"), "fits _ 0 0 1 1", 0, 0, 6, 511);
        range(seven, "chance _ 1 0 0 0", 0, 0, 6, 1);
        range(seven, "kind _", 0, 1, 6, 1);
        range(seven, "as _ 1", 0, 0, 6, 6);
        range(seven, "ask _ 0", 0, 0, 6, 18);
    }

    private static void turnipsOfOne() {
        String[] one = by(ONE);
        range(one, "lean _", 0, 0, 0, 0);
        range(one, "turnip _ 5", 0, 1, 0, 1);
        range(one, "place _", 0, 0, 0, 0);
        range(one, "ahead _ 7 0", 0, 6, 0, 6);
        range(one, "risen _ 6", 0, 7, 0, 7);
        range(one, "pairs 7 _", -1, 6, 0, NONE);
        range(one, "power _", 0, 1, 0, 1);
        range(one, "chance _ 6 7 5 0", 0, 1, 0, 1);
        range(one, "ask _ 1", 0, 0, 0, 0);
        new Run(one).dueEach(BAD, "marry 0 _", -1, 0, 1).dueEach(BAD, "marry _ 0", -1, 1);
        new Run(one).dueEach(BAD, "swap 0 _", -1, 0, 1).dueEach(BAD, "swap _ 0", -1, 1);
        new Run(one).due(Run.STATE, "part 0").dueEach(BAD, "part _", -1, 1);
        new Run(one).due(Run.STATE, "undo");
    }

    private static void foretold() {
        // With ground 1 a plain one of rank 3 has come by 60 years to just 90, by 50 to 80.
        String[] slow = by("read g1,0;t3,0,0;t0,0,1;");
        range(slow, "ahead 0 _ 0", 0, 3, 60, 9);
        range(slow, "ahead 1 _ 0", 0, 0, 60, 6);
        range(slow, "ahead 1 9 _", 0, 0, 1, 9);
        range(slow, "ahead 0 59 _", 0, 8, 1, 9);
        range(slow, "risen 0 _", 0, 0, 9, 60);
        range(slow, "risen 1 _", 0, 0, 9, NONE);
        range(slow, "squire _", 0, 0, 1, 60);
        range(slow, "pairs _ -1", 1, 3, 20, 7);
        new Run(slow).due(5, "pairs 19 -1");
        range(slow, "pairs 20 _", -1, 7, 1, NONE);
        // Each leans towards the other, but away from it when they have changed places.
        String[] apart = by("read g1,0;t3,0,1;t0,0,0;");
        range(apart, "change _ 1", 1, 3, 30, 9);
        new Run(apart).due(7, "change 29 1");
        range(apart, "change 1 _", 0, 1, 1, 3);
        range(slow, "blocs _", 0, 1, 1, 1);
        range(by("read g1,0;t3,0,0;t3,0,0;"), "blocs _", 0, 2, 1, 3);
    }

    private static void fits() {
        // Behind 1, 2, .. 12 years its rank is this by ground 5; the last item says whether all are looked at.
        int[] ranks = {0, 1, 1, 2, 2, 3, 3, 4, 4, 5, 5, 6};
        Run run = new Run("read g5,0;t0,0,0;", "row 0 0 40", "row 7 0 1");
        for (int k = 0; k < 12; k++) {
            run.make("set 0 " + (28 + k) + " " + ranks[k]);
        }
        run.due(2 + 4 + 8, "fits 0 0 28 1 0").due(2 + 8, "fits 0 0 28 12 0").due(32, "fits 0 0 28 12 2");
        run.due(5, "set 0 39 5").due(0, "fits 0 0 28 12 0").due(2 + 8, "fits 0 0 28 11 0");
        String[] rows = by("read g5,0;t0,0,0;", "row 0 0 40", "row 7 0 12");
        range(rows, "fits 0 _ 0 1 1", 0, 31, 7, 31);
        range(rows, "fits 0 0 _ 1 1", 0, 31, 39, 31, PLACE);
        range(rows, "fits 0 0 _ 12 3", 0, 0, 28, 0, PLACE);
        range(rows, "fits 0 7 _ 12 3", 0, 0, 0, 0, PLACE);
        range(rows, "fits 0 0 0 _ 2", 1, 1022, 12, 0);
        range(by("read g1,0;f9,0,0;f3,0,0;", "row 0 0 12", "set 0 0 3"), "fits 1 0 0 1 _", 0, 62, 3, 65535);
        new Run("read g1,0;f3,0,0;", "row 1 2 0").dueEach(PLACE, "fits 0 1 _ 1 0", -1, 0, 1);
        new Run(rows).dueEach(NULL, "fits 0 1 _ 1 0", -1, 0, 39).dueEach(BAD, "fits 0 1 -1 _ 0", 0, 13);
    }

    /** The least and the greatest of the bits, each where it stands alone. */
    private static void bits() {
        // Plain it has 5, 9, 13, old 3, 5, 7, purple 6, 11, a fellow or a son 9, 17.
        new Run("read g4,0;o1,1,0;t5,0,0;", "row 0 0 3", "set 0 0 1", "set 0 1 1", "set 0 2 2").due(2, "fits 0 0 0 3 0");
        new Run("read g4,0;t3,2,0;t5,0,0;", "row 0 0 1", "set 0 0 4").due(32, "fits 0 0 0 1 0");
        Run run = new Run("read g1,0;t0,1,0;t0,0,1;", "row 0 0 12", "row 1 0 1", "set 1 0 1");
        run.due(1, "fits 0 0 0 9 1").due(512, "fits 0 1 0 1 1");
        run.due(2, "fits 1 0 0 9 2").due(512, "fits 0 1 0 1 2").due(0, "fits 0 0 0 9 2");
        Run old = new Run("read g2,3;o0,5,0;o0,2,1;", "row 0 0 4", "row 1 0 4", "set 1 3 1");
        old.due(1, "fits 0 0 0 4 3").due(32768, "fits 1 1 0 4 3");
    }

    private static void chance() {
        String[] old = by("read g2,0;o0,8,0;");
        // It gains 2 in frost, else 1, and lacks 2.
        range(old, "chance 0 _ 0 0 0", 0, 1, 9, 0);
        range(old, "chance 0 1 _ 5 0", 0, 0, 8, 1);
        range(old, "chance 0 1 _ 5 1", 0, 1, 8, 1);
        range(old, "chance 0 1 1 _ 0", 0, 0, 10, 1);
        range(old, "chance 0 1 1 _ 1", 0, 1, 10, 1);
        range(old, "chance 0 1 1 3 _", 0, 3, 1, 10);
        new Run(old).due(1, "chance 0 1 1 1 0").due(10, "chance 0 1 1 1 1");
        new Run(old).due(9, "chance 0 1 1 9 0").due(10, "chance 0 1 1 9 1");
        // All of eight years with frost, by 1 of 10; any but none of them, by 9 of 10.
        new Run("read g2,0;o0,0,0;o0,1,0;").due(0, "chance 0 2 8 10 0").due(1, "chance 0 2 8 10 1");
        new Run("read g2,0;o0,0,0;o0,4,0;").due(1, "chance 1 2 8 1 0").due(100000000, "chance 1 2 8 1 1");
        new Run("read g2,0;o0,0,0;o0,1,0;").due(99999999, "chance 1 1 8 9 0").due(100000000, "chance 1 1 8 9 1");
    }

    private static void drawn() {
        String[] one = by("read g9,0;t0,0,0;");
        // From 1 on X is 16807 first: ground 5; from 999999 on 1774597664: ground 3.
        range(one, "drawn 1 _ 1", 1, 5, 999999, 3);
        range(one, "drawn _ 1 1", 0, 0, 60, 9);
        range(one, "drawn _ 999999 0", 0, 0, 60, 9);
        range(one, "drawn 1 1 _", 0, 0, 1, 5);
        // From 2 on X is 33614: ground 9.
        new Run(one).due(9, "drawn 1 2 1");
        // The old one and the fellow, married, gain a quarter of the ground each, the old one 1 more below the fellow.
        range(by("read g9,0;o0,0,0;f9,0,0;", "marry 0 1"), "drawn _ 12345 0", 0, 9, 60, 9 + slowCentury(12345) / 10);
        range(by("read g9,0;o0,0,0;f9,0,0;", "marry 0 1"), "drawn 60 _ 0", 1, 9 + slowCentury(1) / 10, 999999,
                9 + slowCentury(999999) / 10);
    }

    /** What the old one beside a fellow of rank 9 comes to in 60 years, neither of them standing still. */
    private static int slowCentury(int seed) {
        long x = seed;
        int grown = 0;
        int place = 0;
        for (int i = 0; i < 60; i++) {
            x = x * 16807 % 2147483647L;
            int ground = 1 + (int) (x % 9);
            if (x % 3 == 0 && x % 2 != x / 2 % 2) {
                place = 1 - place;
            }
            // It leans down: only in place 1 is there one whom it leans to.
            grown += ground / 2 / 2 + place;
        }
        Run.check("it has not come to the top: " + grown, grown < 100);
        return grown;
    }

    private static void asked() {
        String[] five = by(FIVE);
        range(five, "as 0 _", 0, 0, 5, Run.KIND);
        range(five, "as 4 _", 0, 4, 5, 4);
        range(five, "ask 4 _", 0, -194, 1, 198);
        range(by(FIVE, "ask 1 0"), "trace _", 0, 12, 5, 20, NONE);
        range(by(FIVE, "ask 3 0"), "trace _", 0, 13, 1, 10, NONE);
        new Run().dueEach(NONE, "trace _", -1, 0, 1, 15, 16, Run.MIN, Run.MAX);
        new Run(FIVE).dueEach(NONE, "trace _", -1, 0, 15, 16);
    }
}
