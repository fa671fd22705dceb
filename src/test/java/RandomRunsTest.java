import java.lang.reflect.Method;
import java.util.ArrayList;
import java.util.Arrays;
import java.util.List;

/** Runs of calls drawn by seeds of their own: the class has to answer as the model does, and never to throw. */
public final class RandomRunsTest {
    private static final int RUNS = 300, CALLS = 512;
    private static final int[] EDGES = {Integer.MIN_VALUE, Integer.MIN_VALUE + 1, -1000001, -1, 0, 1, 7, 8, 9, 10, 12, 13,
        24, 25, 40, 41, 60, 61, 90, 255, 256, 1000000, Integer.MAX_VALUE - 1, Integer.MAX_VALUE};

    /** What each argument of a call is mostly drawn from: from the least to the most. */
    private static final String[] RANGES = {
        "row 0-7 0-2 0-40", "set 0-7 0-12 -300-300", "copy 0-3 0-6 0-3 0-6 0-8", "drop 0-7", "feed 0-255", "field",
        "fault", "years 1-24", "marry 0-6 0-6", "part 0-6", "swap 0-6 0-6", "lean 0-6", "ground 1-9", "undo",
        "turnip 0-6 0-5", "place 0-6", "ahead 0-6 0-60 0-1", "risen 0-6 0-9", "squire 0-1", "pairs 1-20 -1-6",
        "change 1-30 0-1", "power 0-6", "blocs 0-1", "fits 0-6 0-3 0-3 1-6 0-3", "chance 0-6 0-9 0-8 0-10 0-1",
        "drawn 0-60 1-999999 0-1", "image 0-1", "restore 0-1", "kind 0-6", "as 0-6 0-5", "ask 0-6 0-1", "trace 0-15",
        "count 0-8", "status"
    };

    private final TurnipSquires squires = new TurnipSquires();
    private final Model model = new Model();
    private final List<String> told = new ArrayList<>();
    private long state;
    private int calls = 0;

    private RandomRunsTest(int seed) {
        state = seed * 2862933555777941757L + 3037000493L;
    }

    public static void main(String[] args) throws ReflectiveOperationException {
        for (int seed = 1; seed <= RUNS; seed++) {
            RandomRunsTest run = new RandomRunsTest(seed);
            if (!run.goesWell(seed)) {
                System.out.println("the run of seed " + seed + " goes wrong; its last calls:");
                int n = run.told.size();
                run.told.subList(Math.max(0, n - 40), n).forEach(System.out::println);
                System.exit(1);
            }
        }
        System.out.println(RUNS + " runs go as the model goes");
    }

    private int draw(int n) {
        state = state * 6364136223846793005L + 1442695040888963407L;
        return (int) ((state >>> 33) % n);
    }

    private boolean goesWell(int seed) throws ReflectiveOperationException {
        // In some runs few calls but years are made, so that the last year is reached.
        boolean old = seed % 50 == 0;
        while (calls < CALLS) {
            boolean wanted = squires.count(1) == 0 && draw(3) > 0 || draw(70) == 0 && !old;
            boolean fine = wanted ? feedsText() : makesCall(old && draw(8) > 0 ? "years 20-24" : RANGES[draw(RANGES.length)]);
            if (!fine) {
                return false;
            }
        }
        return true;
    }

    private boolean feedsText() throws ReflectiveOperationException {
        StringBuilder text = new StringBuilder("g" + (1 + draw(9)) + "," + draw(16) + ";");
        int turnips = draw(20) == 0 ? 8 : 1 + draw(7);
        boolean ranked = draw(2) == 0;
        for (int i = 0; i < turnips; i++) {
            text.append("topfs".charAt(draw(5))).append(ranked ? draw(10) : draw(4)).append(",").append(draw(10));
            text.append(",").append(draw(2)).append(";");
        }
        if (draw(4) == 0) {
            spoil(text);
        }
        for (int i = 0; i < text.length(); i++) {
            if (!makes("feed", text.charAt(i))) {
                return false;
            }
        }
        return makes("field") && makes("fault");
    }

    private void spoil(StringBuilder text) {
        int at = draw(text.length());
        char other = "0123456789,;gtopfsxAZ \n".charAt(draw(23));
        switch (draw(4)) {
            case 0:
                text.deleteCharAt(at);
                break;
            case 1:
                text.setCharAt(at, other);
                break;
            case 2:
                text.setLength(at);
                break;
            default:
                text.insert(at, other);
        }
    }

    private boolean makesCall(String range) throws ReflectiveOperationException {
        String[] parts = range.split(" ");
        int[] a = new int[parts.length - 1];
        boolean wild = draw(12) == 0;
        for (int i = 0; i < a.length; i++) {
            int cut = parts[i + 1].indexOf('-', 1);
            int least = Integer.parseInt(parts[i + 1].substring(0, cut));
            int most = Integer.parseInt(parts[i + 1].substring(cut + 1));
            a[i] = wild && draw(2) == 0 ? EDGES[draw(EDGES.length)] : least - 1 + draw(most - least + 3);
            boolean within = a[i] >= least && a[i] <= most;
            a[i] = within || wild || draw(6) == 0 ? a[i] : least + draw(most - least + 1);
        }
        if (parts[0].equals("set") && draw(2) == 0) {
            a[2] = draw(10);
        }
        if (parts[0].equals("fits") && draw(3) > 0 && !tellsTruth(a)) {
            return false;
        }
        return makes(parts[0], a);
    }

    /** Ahead of an ask what fits: mostly the row tells what the turnip will be, or nearly so. */
    private boolean tellsTruth(int[] a) throws ReflectiveOperationException {
        boolean fine = makes("row", a[1], 0, 12);
        for (int k = 0; fine && k < 6; k++) {
            int rank = squires.ahead(a[0], k + 1, 0);
            fine = makes("set", a[1], k, draw(8) == 0 ? draw(10) : rank);
        }
        a[2] = draw(4) == 0 ? a[2] : 0;
        return fine;
    }

    private boolean makes(String call, int... a) throws ReflectiveOperationException {
        calls++;
        if (calls > CALLS) {
            return true;
        }
        Class<?>[] ints = new Class<?>[a.length];
        Arrays.fill(ints, int.class);
        Method m = TurnipSquires.class.getMethod(call, ints);
        Object[] boxed = Arrays.stream(a).boxed().toArray();
        int got = (Integer) m.invoke(squires, boxed);
        int due = model.answer(call, a);
        told.add(call + Arrays.toString(a) + " answered " + got + ", due is " + due);
        return got == due;
    }
}
