import java.lang.reflect.Method;
import java.util.ArrayList;
import java.util.Arrays;
import java.util.List;

/**
 * A new object and calls of it, each told as a text: "set 0 3 min"; "text .." feeds what follows byte by byte,
 * "read .." makes a field of it, too. It makes no more calls than an object is used for.
 */
final class Run {
    static final int NONE = -1000000, BAD = -1000001, STATE = -1000002, FULL = -1000003;
    static final int NULL = -1000011, PLACE = -1000012, KIND = -1000013, SIZE = -1000014, STORE = -1000015;
    static final int MIN = Integer.MIN_VALUE, MAX = Integer.MAX_VALUE;

    /** One of each kind, in the order of the kinds: ranks 1 3 2 0 3, grown 5 9 0 7 2. */
    static final String FIVE = "read g4,6;t1,5,1;o3,9,0;p2,0,1;f0,7,0;s3,2,1;";

    private static final int CALLS = 512;
    private static int wrong = 0;
    private static int checks = 0;

    private final TurnipSquires x = new TurnipSquires();
    private final List<String> told = new ArrayList<>();
    private int made = 0;

    Run(String... calls) {
        make(calls);
    }

    /** Makes the calls one behind the other: what the last one answered. */
    int make(String... calls) {
        int answer = 0;
        for (String call : calls) {
            told.add(call);
            answer = makeOne(call);
        }
        return answer;
    }

    Run due(int want, String call) {
        int got = make(call);
        check(lastTold() + " answered " + got + ", due is " + want, got == want);
        return this;
    }

    /** The same call once for each of the numbers: the letter _ in it stands for that one. */
    Run dueEach(int want, String call, int... numbers) {
        for (int number : numbers) {
            due(want, put(call, number));
        }
        return this;
    }

    static String put(String call, int number) {
        return call.replace("_", String.valueOf(number));
    }

    private List<String> lastTold() {
        return told.subList(Math.max(0, told.size() - 30), told.size());
    }

    int[] answers(String... calls) {
        return Arrays.stream(calls).mapToInt(this::make).toArray();
    }

    static void check(String what, boolean holds) {
        checks++;
        if (!holds) {
            wrong++;
            System.out.println(what);
        }
    }

    static void end() {
        System.out.println(wrong == 0 ? checks + " answers are as due" : wrong + " answers are not as due");
        if (wrong != 0) {
            System.exit(1);
        }
    }

    private int makeOne(String call) {
        int cut = call.indexOf(' ');
        String name = cut < 0 ? call : call.substring(0, cut);
        String rest = cut < 0 ? "" : call.substring(cut + 1);
        if (name.equals("text") || name.equals("read")) {
            int answer = 0;
            for (char letter : rest.toCharArray()) {
                answer = invoke("feed", letter);
            }
            return name.equals("read") ? invoke("field") : answer;
        }
        String[] numbers = rest.isEmpty() ? new String[0] : rest.split(" ");
        return invoke(name, Arrays.stream(numbers).mapToInt(Run::number).toArray());
    }

    private static int number(String told) {
        return told.equals("min") ? MIN : told.equals("max") ? MAX : Integer.parseInt(told);
    }

    private int invoke(String name, int... a) {
        made++;
        if (made > CALLS) {
            check("more than " + CALLS + " calls: " + lastTold(), false);
        }
        Class<?>[] ints = new Class<?>[a.length];
        Arrays.fill(ints, int.class);
        try {
            Method m = TurnipSquires.class.getMethod(name, ints);
            return (Integer) m.invoke(x, Arrays.stream(a).boxed().toArray());
        } catch (ReflectiveOperationException e) {
            throw new IllegalStateException("there is no answer to " + lastTold(), e);
        }
    }
}
