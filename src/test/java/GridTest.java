import java.util.ArrayList;
import java.util.Arrays;
import java.util.List;

/**
 * All arguments at their edges at once: every choice of the least, the greatest, the next beyond each and the farthest,
 * and texts with each byte at each place; the class has to answer, and stand behind it, as the model does.
 */
public final class GridTest {
    private static final int CALLS = 512;
    /** What arguments go from and to; the turnips are five, so that 5 and 6 are beyond them. */
    private static final String[] RANGES = {
        "row 0:7 0:2 0:40", "set 0:7 0:39 -128:127", "copy 0:1 0:3 0:1 0:40 0:3", "copy 6:7 0:40 0:6 0:40 0:40",
        "drop 0:7", "feed 0:255", "years 1:24", "marry 0:4 0:4", "part 0:4", "swap 0:4 0:4", "lean 0:4", "ground 1:9",
        "turnip 0:4 0:5", "place 0:4", "ahead 0:4 0:60 0:1", "risen 0:4 0:9", "squire 0:1", "pairs 1:20 -1:4",
        "change 1:30 0:1", "power 0:4", "blocs 0:1", "fits 0:4 0:7 0:39 1:12 0:3", "fits 1:3 1:6 0:28 1:12 1:2",
        "chance 0:4 0:9 0:8 0:10 0:1", "chance 1:3 1:4 1:8 1:9 0:1", "drawn 0:60 1:999999 0:1", "image 0:1",
        "restore 0:1", "kind 0:4", "as 0:4 0:5", "ask 0:4 0:1", "trace 0:15", "count 0:8"
    };
    private static final String[] ROWS = {
        "row 0 0 3", "set 0 1 1", "row 1 1 40", "set 1 39 4", "row 6 0 40", "set 6 39 3", "set 6 0 3", "row 7 2 0"
    };
    private static final String FIVE = "g4,6;t1,5,1;o3,9,0;p2,0,1;f0,7,0;s3,2,1;";

    private Run run = new Run();
    private Model model = new Model();
    private int made = 0;

    public static void main(String[] args) {
        GridTest grid = new GridTest();
        for (String range : RANGES) {
            for (boolean held : new boolean[] {false, true}) {
                grid.goThrough(range, held);
            }
        }
        grid.texts();
        Run.end();
    }

    private void goThrough(String range, boolean held) {
        begin(held);
        for (String call : edgesOf(range)) {
            if (made > CALLS - 20) {
                begin(held);
            }
            same(call);
            same("status");
            for (int what = 0; what <= 8; what++) {
                same("count " + what);
            }
        }
    }

    /** New objects with rows, and with a field, acts, an image and half a text, too, if it is held. */
    private void begin(boolean held) {
        run = new Run();
        model = new Model();
        made = 0;
        for (String call : ROWS) {
            same(call);
        }
        if (held) {
            feed(FIVE);
            for (String call : new String[] {"field", "image 1", "years 2", "marry 4 1", "lean 2", "swap 0 2", "ask 4 1"}) {
                same(call);
            }
            feed("g4,6");
        }
    }

    private void feed(String text) {
        for (char letter : text.toCharArray()) {
            same("feed " + (int) letter);
        }
    }

    private int same(String call) {
        made++;
        String[] parts = call.split(" ");
        int[] a = Arrays.stream(parts).skip(1).mapToInt(Integer::parseInt).toArray();
        int want = model.answer(parts[0], a);
        run.due(want, call);
        return want;
    }

    private static List<String> edgesOf(String range) {
        String[] parts = range.split(" ");
        List<String> calls = List.of(parts[0]);
        for (int i = 1; i < parts.length; i++) {
            int least = Integer.parseInt(parts[i].split(":")[0]);
            int most = Integer.parseInt(parts[i].split(":")[1]);
            List<String> more = new ArrayList<>();
            for (String call : calls) {
                for (int v : new int[] {least, most, least - 1, most + 1, Run.MIN, Run.MAX}) {
                    more.add(call + " " + v);
                }
            }
            calls = more;
        }
        return calls;
    }

    /** A field's text with another byte at a place, with one byte more there, and without the one that is there. */
    private void texts() {
        String text = "g4,6;t1,05,1;s3,2,0;";
        for (int at = 0; at <= text.length(); at++) {
            String ahead = text.substring(0, at);
            String behind = text.substring(at);
            for (int b = 0; b <= 255; b++) {
                reads(ahead + (char) b + behind);
                if (!behind.isEmpty()) {
                    reads(ahead + (char) b + behind.substring(1));
                }
            }
            reads(ahead);
            reads(behind);
            reads(behind.isEmpty() ? "" : ahead + behind.substring(1));
        }
    }

    private void reads(String text) {
        if (made + text.length() + 30 > CALLS) {
            begin(false);
        }
        feed(text);
        int turnips = same("field");
        same("fault");
        for (int what = 1; what <= 8; what++) {
            same("count " + what);
        }
        for (int t = 0; t < turnips; t++) {
            for (int what = 0; what <= 5; what++) {
                same("turnip " + t + " " + what);
            }
            same("kind " + t);
        }
    }
}
