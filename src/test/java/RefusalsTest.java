import java.util.ArrayList;
import java.util.Arrays;
import java.util.List;

/**
 * Each refused call: what it answers, and that all stays as it was. Two objects go through the same calls, but one of
 * them through the refused call, too; then both are asked for all that can be learned of them, to the last row.
 */
public final class RefusalsTest {
    private static final int BAD = Run.BAD, STATE = Run.STATE, FULL = Run.FULL;
    private static final int NULL = Run.NULL, PLACE = Run.PLACE, KIND = Run.KIND, SIZE = Run.SIZE, STORE = Run.STORE;

    /** Rows of each lane, one of them empty and one full, with a tape, a fault and a finding, but no field. */
    private static final String[] BARE = {
        "row 0 0 3", "set 0 0 1", "set 0 1 3", "set 0 2 2", "row 1 1 40", "set 1 39 4", "row 7 2 0", "row 6 0 40",
        "set 6 39 3", "row 2 1 5", "drop 2", "text g0", "field", "text g4", "set 0 3 0"
    };
    /** These, and a field with acts, an image, a trace and another finding. */
    private static final String[] HELD = behind(BARE, "field", Run.FIVE, "image 0", "marry 0 1", "swap 2 4", "years 1",
            "lean 3", "ground 7", "ask 4 1", "text g4", "as 0 2");
    private static final String[] NOTHING = {};

    private static String[] behind(String[] setup, String... calls) {
        List<String> all = new ArrayList<>(Arrays.asList(setup));
        all.addAll(Arrays.asList(calls));
        return all.toArray(new String[0]);
    }

    public static void main(String[] args) {
        rows();
        texts();
        withoutField();
        acts();
        foretold();
        images();
        asked();
        lastYear();
        faultsLeaveAll();
        questionsLeaveAll();
        Run.end();
    }

    /** All that one can ask an object for; to learn what is kept, acts are undone, images brought back, rows dropped. */
    private static List<String> allOf(Run run) {
        List<String> told = new ArrayList<>();
        learn(run, told, "status", "fault");
        learnEach(run, told, "trace _", 0, 16);
        learnEach(run, told, "count _", 0, 8);
        learnField(run, told);
        for (int i = 0; i <= 24 && learn(run, told, "undo") != STATE; i++) {
            learn(run, told, "count 2", "count 3", "count 6", "place 2", "turnip 3 3");
        }
        learnEach(run, told, "turnip _ 1", 0, 4);
        for (String image : new String[] {"restore 1", "restore 0"}) {
            if (learn(run, told, image) == 1) {
                learnField(run, told);
            }
        }
        learn(run, told, "field", "fault");
        learnRows(run, told);
        return told;
    }

    private static int learn(Run run, List<String> told, String... calls) {
        int answer = 0;
        for (String call : calls) {
            answer = run.make(call);
            told.add(call + " = " + answer);
        }
        return answer;
    }

    private static void learnEach(Run run, List<String> told, String call, int least, int most) {
        for (int i = least; i <= most; i++) {
            learn(run, told, Run.put(call, i));
        }
    }

    private static void learnField(Run run, List<String> told) {
        learnEach(run, told, "count _", 1, 6);
        int turnips = run.make("count 1");
        for (int t = 0; t < turnips; t++) {
            learnEach(run, told, "turnip " + t + " _", 0, 5);
            learn(run, told, "place " + t, "kind " + t);
        }
    }

    /** By turnips of ranks 0 to 4 that do not rise so soon, the first and last items are learned; by others the lanes. */
    private static void learnRows(Run run, List<String> told) {
        run.make("read g1,0;t0,0,0;t1,0,0;t2,0,0;t3,0,0;t4,0,0;");
        for (String item : new String[] {"0 0", "0 1", "0 2", "1 0", "1 39", "6 0", "6 39", "3 0"}) {
            for (int t = 0; t < 5; t++) {
                learn(run, told, "fits " + t + " " + item + " 1 1");
            }
        }
        run.make("row 3 0 0", "row 4 1 0", "row 5 2 0");
        for (int lane = 3; lane <= 5; lane++) {
            learnEach(run, told, "copy " + lane + " 0 _ 0 0", 0, 2);
            learnEach(run, told, "copy " + lane + " 0 _ 0 0", 6, 7);
        }
        learnEach(run, told, "drop _", 0, 7);
    }

    /** The call has to answer what is due behind the setup, and to change nothing but what its finding makes of status. */
    private static void refused(String[] setup, int due, String... calls) {
        for (String call : calls) {
            Run one = new Run(setup).due(due, call);
            stays(setup, call, allOf(one), statusBehind(due));
        }
    }

    /** Null: it stays. */
    private static String statusBehind(int answer) {
        boolean found = answer <= NULL && answer >= STORE;
        return found ? "status = " + (-1000010 - answer) : null;
    }

    private static void stays(String[] setup, String call, List<String> got, String status) {
        List<String> want = allOf(new Run(setup));
        if (status != null) {
            want.set(0, status);
        }
        Run.check(Arrays.toString(setup) + ": " + call + " has changed " + difference(want, got), got.equals(want));
    }

    private static String difference(List<String> want, List<String> got) {
        for (int i = 0; i < want.size() && i < got.size(); i++) {
            if (!want.get(i).equals(got.get(i))) {
                return got.get(i) + ", due is " + want.get(i);
            }
        }
        return "how much there is to ask";
    }

    private static void rows() {
        for (String[] setup : new String[][] {BARE, HELD}) {
            refused(setup, BAD, "row -1 0 1", "row 8 0 1", "row 0 -1 1", "row 0 3 1", "row 0 0 41", "row 0 0 max",
                    "row 8 0 -1", "row 0 3 -1", "row min min min", "row max max max");
            refused(setup, SIZE, "row 0 1 -1", "row 0 0 min", "row 3 0 -1", "row 7 0 -1");
            refused(setup, BAD, "set -1 0 1", "set 8 0 1", "set 8 -1 1", "set min 0 0", "set max 0 0");
            refused(setup, NULL, "set 3 0 1", "set 2 0 1", "set 2 -1 1", "set 3 40 1");
            refused(setup, PLACE, "set 0 -1 1", "set 0 3 1", "set 7 0 1", "set 1 40 1", "set 1 min 1", "set 0 max 1");
            refused(setup, BAD, "copy -1 0 0 0 1", "copy 8 0 0 0 1", "copy 0 0 -1 0 1", "copy 0 0 8 0 1",
                    "copy 8 0 2 0 1", "copy 2 0 8 0 1", "copy max -1 min -1 -1");
            refused(setup, NULL, "copy 2 0 0 0 1", "copy 0 0 2 0 1", "copy 2 0 2 0 0", "copy 3 0 7 0 0", "copy 2 -1 1 0 99",
                    "copy 1 0 2 0 -1");
            refused(setup, STORE, "copy 0 0 1 0 1", "copy 1 0 0 0 0", "copy 0 0 7 0 0", "copy 7 0 0 0 1",
                    "copy 1 -1 0 0 1", "copy 0 0 1 40 1", "copy 0 0 1 0 -1");
            refused(setup, PLACE, "copy 0 -1 6 0 1", "copy 0 0 6 -1 1", "copy 0 0 6 0 -1", "copy 0 0 6 0 4",
                    "copy 0 1 6 0 3", "copy 6 0 0 0 4", "copy 6 0 0 1 3", "copy 0 4 6 0 0", "copy 0 0 6 41 0",
                    "copy 7 0 7 0 1", "copy 6 0 6 1 40", "copy 6 1 6 0 40", "copy 6 max 6 0 1", "copy 6 1 6 0 max",
                    "copy 6 0 6 max max", "copy 6 min 6 0 0", "copy 6 0 6 min 0", "copy 6 0 6 0 min");
            refused(setup, BAD, "drop -1", "drop 8", "drop min", "drop max");
            refused(setup, NULL, "drop 2", "drop 3");
        }
        refused(NOTHING, NULL, "drop 0", "drop 7", "set 0 0 0", "copy 0 0 0 0 0");
    }

    private static void texts() {
        String[] full = {"text " + "g4,6;t1,5,1;".repeat(7), "text g4,6;t", "set 0 0 0"};
        for (String[] setup : new String[][] {NOTHING, BARE, HELD, full}) {
            refused(setup, BAD, "feed -1", "feed 256", "feed min", "feed max");
        }
        refused(full, FULL, "feed 0", "feed 116", "feed 255");
    }

    private static void withoutField() {
        for (String[] setup : new String[][] {NOTHING, BARE}) {
            refused(setup, STATE, "years 1", "years 24", "years 0", "years 25", "years min", "ground 1", "ground 9",
                    "ground 0", "ground 10", "undo", "squire 0", "squire 1", "squire -1", "squire 2", "pairs 1 -1",
                    "pairs 20 0", "pairs 0 -2", "pairs 21 7", "change 1 0", "change 30 1", "change 0 -1", "change 31 2",
                    "blocs 0", "blocs 1", "blocs -1", "blocs 2", "drawn 0 1 0", "drawn 60 999999 1", "drawn -1 0 -1",
                    "drawn 61 1000000 2", "image 0", "image 1", "restore 0", "restore 1");
            refused(setup, BAD, "marry 0 1", "part 0", "swap 0 1", "lean 0", "turnip 0 0", "place 0", "ahead 0 0 0",
                    "risen 0 0", "power 0", "fits 0 0 0 1 0", "fits 0 3 0 1 0", "chance 0 0 0 0 0", "image -1",
                    "image 2", "restore -1", "restore 2", "kind 0", "as 0 0", "ask 0 0", "ask 0 1", "count -1",
                    "count 9");
        }
    }

    private static void acts() {
        refused(HELD, BAD, "years 0", "years 25", "years -1", "years min", "years max", "ground 0", "ground 10",
                "ground -1", "ground min", "ground max");
        refused(HELD, BAD, "marry -1 2", "marry 5 2", "marry 2 -1", "marry 2 5", "marry 2 2", "marry 0 0", "marry 0 5",
                "marry -1 0", "marry 5 5", "marry min max");
        refused(HELD, STATE, "marry 0 2", "marry 2 0", "marry 1 4", "marry 4 1", "marry 0 1", "marry 1 0");
        refused(HELD, BAD, "part -1", "part 5", "part min", "part max");
        refused(HELD, STATE, "part 2", "part 3", "part 4");
        refused(HELD, BAD, "swap -1 2", "swap 5 2", "swap 2 -1", "swap 2 5", "swap 2 2", "swap 5 5", "swap max min");
        refused(HELD, BAD, "lean -1", "lean 5", "lean min", "lean max");
        // No act: behind a field that is read, behind an image brought back, behind all that were undone.
        refused(new String[] {Run.FIVE}, STATE, "undo", "part 0", "restore 0");
        refused(behind(HELD, "field", "read g1,1;t0,0,0;"), STATE, "undo");
        refused(behind(HELD, "restore 0"), STATE, "undo");
        refused(behind(HELD, "undo", "undo", "undo", "undo", "undo"), STATE, "undo");
    }

    private static void foretold() {
        refused(HELD, BAD, "turnip -1 0", "turnip 5 0", "turnip 0 -1", "turnip 0 6", "turnip min max", "place -1",
                "place 5", "place min", "place max", "ahead -1 0 0", "ahead 5 0 0", "ahead 0 -1 0", "ahead 0 61 0",
                "ahead 0 0 -1", "ahead 0 0 2", "ahead max min max", "risen -1 0", "risen 5 0", "risen 0 -1",
                "risen 0 10", "risen max min", "squire -1", "squire 2", "squire min", "pairs 0 -1", "pairs 21 -1",
                "pairs 1 -2", "pairs 1 5", "pairs min max", "change 0 0", "change 31 0", "change 1 -1", "change 1 2",
                "change max min", "power -1", "power 5", "power min", "blocs -1", "blocs 2", "blocs max");
        refused(HELD, BAD, "fits -1 0 0 1 0", "fits 5 0 0 1 0", "fits 0 -1 0 1 0", "fits 0 8 0 1 0", "fits 0 0 0 0 0",
                "fits 0 0 0 13 0", "fits 0 0 0 -1 0", "fits 0 0 0 1 -1", "fits 0 0 0 1 4", "fits 5 3 0 1 0",
                "fits 0 3 0 0 0", "fits 0 3 0 13 0", "fits 0 3 0 1 4", "fits 0 0 -1 1 4", "fits 0 0 3 13 0",
                "fits min max min max min");
        refused(HELD, NULL, "fits 0 3 0 1 0", "fits 0 2 0 1 3", "fits 0 3 -1 1 0", "fits 0 3 40 12 0");
        refused(HELD, PLACE, "fits 0 0 -1 1 0", "fits 0 0 3 1 0", "fits 0 0 1 3 0", "fits 0 0 0 4 0", "fits 0 7 0 1 0",
                "fits 0 1 29 12 0", "fits 0 1 40 1 3", "fits 0 1 min 1 0", "fits 0 1 max 12 0", "fits 0 0 -2 3 0");
        refused(HELD, BAD, "chance -1 0 0 0 0", "chance 5 0 0 0 0", "chance 0 -1 0 0 0", "chance 0 10 0 0 0",
                "chance 0 0 -1 0 0", "chance 0 0 9 0 0", "chance 0 0 0 -1 0", "chance 0 0 0 11 0", "chance 0 0 0 0 -1",
                "chance 0 0 0 0 2", "chance min max min max min", "drawn -1 1 0", "drawn 61 1 0", "drawn 0 0 0",
                "drawn 0 1000000 0", "drawn 0 -1 0", "drawn 0 1 -1", "drawn 0 1 2", "drawn min max min");
    }

    private static void images() {
        refused(HELD, BAD, "image -1", "image 2", "image min", "image max", "restore -1", "restore 2", "restore min",
                "restore max");
        refused(HELD, STATE, "restore 1");
        refused(new String[] {Run.FIVE, "image 1", "years 1"}, STATE, "restore 0");
    }

    private static void asked() {
        refused(HELD, BAD, "kind -1", "kind 5", "kind min", "as -1 0", "as 5 0", "as 0 -1", "as 0 6", "as 5 6",
                "as min max", "ask -1 0", "ask 5 0", "ask 0 -1", "ask 0 2", "ask max min", "count -1", "count 9",
                "count min", "count max");
        refused(HELD, KIND, "as 0 2", "as 0 3", "as 0 4", "as 0 5", "as 1 3", "as 1 4", "as 1 5", "as 2 2", "as 2 4",
                "as 2 5", "as 3 1", "as 3 2", "as 3 3", "as 3 5", "as 4 1", "as 4 2", "as 4 3");
    }

    /** The fellow and the plain one of this field have long come to the top in that year. */
    private static Run inYear(int year) {
        Run run = new Run("read g1,0;f9,9,0;t3,0,0;");
        for (int y = 0; y < year; y += Math.min(24, year - y)) {
            run.make("years " + Math.min(24, year - y));
        }
        return run.due(year, "count 2").due(24, "count 7").due(18, "count 5");
    }

    private static void lastYear() {
        inYear(9975).due(18, "years 24").due(9999, "count 2").due(FULL, "years 1").due(9999, "count 2");
        Run late = inYear(9976).due(FULL, "years 24").due(9976, "count 2").due(24, "count 7");
        late.due(18, "years 23").due(9999, "count 2").dueEach(FULL, "years _", 1, 24).dueEach(BAD, "years _", 0, 25);
        late.due(9999, "count 2").due(24, "count 7").due(0, "status");
        late.due(9, "ahead 0 60 0").due(18, "drawn 60 1 1").due(23, "undo").due(9998, "count 2");
        late.due(FULL, "years 2").due(18, "years 1").due(9999, "count 2").due(24, "count 7");
        late.due(1, "image 0").due(1, "restore 0").due(FULL, "years 1").due(9999, "count 2").due(0, "count 7");
        late.due(1, "read g1,0;t0,0,0;").due(0, "count 2").due(2, "years 24");
    }

    /** A fault empties the tape and is told by fault(); all else stays. */
    private static void faultsLeaveAll() {
        for (String[] setup : new String[][] {BARE, HELD}) {
            staysButTape(setup, "field");
            staysButTape(setup, "text ,66;", "field");
            staysButTape(setup, "text ,6;", "field");
            staysButTape(setup, "text ,9;s9,9,0;f8,8,0;o7,7,7;", "field");
            staysButTape(setup, "text ,9;" + "s9,9,0;".repeat(8), "field");
        }
    }

    private static void staysButTape(String[] setup, String... calls) {
        String[] faulty = behind(setup, calls);
        List<String> want = allOf(new Run(setup));
        List<String> got = allOf(new Run(faulty));
        // These are what a fault may change: its number, the tape's bytes, and what is read of them.
        for (List<String> told : List.of(want, got)) {
            told.removeIf(s -> s.startsWith("fault") || s.startsWith("count 8") || s.startsWith("field"));
        }
        Run.check(Arrays.toString(faulty) + " has changed " + difference(want, got), got.equals(want));
        Run behind = new Run(faulty);
        behind.due(0, "count 8").due(-1000100, "field").due(1, "fault");
    }

    /** What only tells leaves all as it was; status and the trace change where the document says so. */
    private static void questionsLeaveAll() {
        String[] questions = {"fault", "turnip 0 5", "place 4", "ahead 0 60 0", "ahead 4 1 1", "risen 0 9", "squire 0",
            "squire 1", "pairs 20 -1", "pairs 1 0", "change 30 0", "change 1 1", "power 1", "blocs 0", "blocs 1",
            "chance 1 4 8 3 0", "chance 1 4 8 3 1", "drawn 60 7 0", "drawn 60 999999 1", "kind 0", "trace 0", "trace 16",
            "count 0", "count 8", "status"};
        for (String question : questions) {
            stays(HELD, question, allOf(new Run(behind(HELD, question))), null);
        }
        for (String fine : new String[] {"fits 0 0 0 3 0", "fits 4 0 0 1 1", "fits 1 1 28 12 2", "fits 2 6 39 1 3",
            "as 0 1", "as 4 4", "copy 0 3 6 40 0", "copy 7 0 7 0 0", "copy 0 0 0 0 3", "set 0 2 2"}) {
            stays(HELD, fine, allOf(new Run(behind(HELD, fine))), "status = 0");
        }
    }
}
