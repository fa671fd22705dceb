import java.lang.reflect.Constructor;
import java.lang.reflect.Field;
import java.lang.reflect.Method;
import java.lang.reflect.Modifier;
import java.nio.file.Files;
import java.nio.file.Path;
import java.util.Arrays;
import java.util.HashSet;
import java.util.Set;
import java.util.TreeSet;
import java.util.regex.Matcher;
import java.util.regex.Pattern;

/** The class's face is that of the document, and its source keeps to what LANGUAGE.md can be searched for. */
public final class FaceTest {
    private static final String[] METHODS = {
        "row/3", "set/3", "copy/5", "drop/1", "feed/1", "field/0", "fault/0", "years/1", "marry/2", "part/1",
        "swap/2", "lean/1", "ground/1", "undo/0", "turnip/2", "place/1", "ahead/3", "risen/2", "squire/1",
        "pairs/2", "change/2", "power/1", "blocs/1", "fits/5", "chance/5", "drawn/3", "image/1", "restore/1",
        "kind/1", "as/2", "ask/2", "trace/1", "count/1", "status/0"
    };
    private static final Set<String> CONSTANTS = Set.of("NONE", "BAD", "STATE", "FULL");

    private static int wrong = 0;

    private static void hold(String what, boolean holds) {
        if (!holds) {
            wrong++;
            System.out.println("does not hold: " + what);
        }
    }

    public static void main(String[] args) throws Exception {
        methodsAreThoseOfTheDocument();
        fieldsAndConstructorsAre();
        classesInside();
        if (args.length > 0) {
            words(Files.readString(Path.of(args[0])));
        }
        System.out.println(wrong == 0 ? "the face is as told" : wrong + " rules are broken");
        if (wrong != 0) {
            System.exit(1);
        }
    }

    private static void methodsAreThoseOfTheDocument() {
        Set<String> found = new TreeSet<>();
        Set<String> names = new HashSet<>();
        for (Method m : TurnipSquires.class.getDeclaredMethods()) {
            if (Modifier.isPublic(m.getModifiers())) {
                found.add(m.getName() + "/" + m.getParameterCount());
                names.add(m.getName());
                hold(m + " answers and takes int", m.getReturnType() == int.class
                        && Arrays.stream(m.getParameterTypes()).allMatch(t -> t == int.class));
                hold(m + " is no static one", !Modifier.isStatic(m.getModifiers()));
            } else {
                hold(m + " is private", Modifier.isPrivate(m.getModifiers()));
            }
        }
        hold("the public methods are those told, not " + found, found.equals(new TreeSet<>(Arrays.asList(METHODS))));
        for (Method m : TurnipSquires.class.getDeclaredMethods()) {
            hold(m + " bears no public name", Modifier.isPublic(m.getModifiers()) || !names.contains(m.getName()));
        }
    }

    private static void fieldsAndConstructorsAre() {
        hold("the class is public and final", Modifier.isPublic(TurnipSquires.class.getModifiers())
                && Modifier.isFinal(TurnipSquires.class.getModifiers()));
        Constructor<?>[] made = TurnipSquires.class.getDeclaredConstructors();
        hold("one public constructor", made.length == 1 && Modifier.isPublic(made[0].getModifiers())
                && made[0].getParameterCount() == 0);
        Set<String> constants = new HashSet<>();
        for (Field f : TurnipSquires.class.getDeclaredFields()) {
            if (Modifier.isPublic(f.getModifiers())) {
                constants.add(f.getName());
                hold(f + " is static and final", Modifier.isStatic(f.getModifiers())
                        && Modifier.isFinal(f.getModifiers()) && f.getType() == int.class);
            } else {
                hold(f + " is private", Modifier.isPrivate(f.getModifiers()));
            }
        }
        hold("the constants are those told", constants.equals(CONSTANTS));
    }

    private static void classesInside() {
        Class<?>[] inside = TurnipSquires.class.getDeclaredClasses();
        hold("at most twelve classes", inside.length + 1 <= 12);
        for (Class<?> c : inside) {
            hold(c + " is static, not public", Modifier.isStatic(c.getModifiers())
                    && !Modifier.isPublic(c.getModifiers()));
            int own = 0;
            for (Field f : c.getDeclaredFields()) {
                hold(f + " is final if static",
                        !Modifier.isStatic(f.getModifiers()) || Modifier.isFinal(f.getModifiers()));
                own += Modifier.isStatic(f.getModifiers()) ? 0 : 1;
            }
            hold(c + " has at most twenty fields", own <= 20);
        }
    }

    private static void words(String source) {
        String bare = source.replaceAll("(?s)/\\*.*?\\*/", "").replaceAll("//[^\n]*", "");
        for (String word : new String[] {"throw", "throws", "try", "catch", "finally", "synchronized", "assert",
            "package", "protected", "native", "volatile", "record", "var", "yield", "Object"}) {
            hold("no " + word, !Pattern.compile("\\b" + word + "\\b").matcher(bare).find());
        }
        for (String sign : new String[] {"->", "::", "@", "\"", "..."}) {
            hold("no " + sign, !bare.contains(sign));
        }
        Matcher imports = Pattern.compile("import ([^;]+);").matcher(bare);
        while (imports.find()) {
            hold("no import of " + imports.group(1), imports.group(1).equals("java.util.Arrays"));
        }
        for (char c : source.toCharArray()) {
            hold("the source's sign " + (int) c, c == '\n' || c >= 32 && c < 127);
        }
    }
}
