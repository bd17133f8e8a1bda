import java.io.IOException;
import java.lang.reflect.Field;
import java.lang.reflect.Member;
import java.lang.reflect.Method;
import java.lang.reflect.Modifier;
import java.nio.file.Files;
import java.nio.file.Path;
import java.util.ArrayList;
import java.util.Arrays;
import java.util.List;
import java.util.Set;
import java.util.TreeSet;
import java.util.regex.Matcher;
import java.util.regex.Pattern;

/** The document's public face, and the rules of LANGUAGE.md that can be seen from the class and from its source. */
public final class FaceTest {
    private static final Due due = new Due("FaceTest");

    private static final String[] CONSTANTS = {
        "NO_SUCH=-1", "BAD_VALUE=-2", "BAD_TEXT=-3", "TOO_MANY=-4", "NOT_POSSIBLE=-5", "NONE=-6",
        "LOSS=0", "READING=1", "RECOVER=2", "FRESH=3",
        "AMPLIFIER=0", "READER=1", "FEEDER=2", "CHANGER=3", "DROPPER=4", "OFF=0", "CROSS=1", "MERGE=2",
    };

    private static final String[] METHODS = {
        "set(int,int)", "loop(int)", "device(int,int,int,int,int)", "join(int,int,int,int)", "turn(int,int)", "feed(int,int)",
        "light(int,int,int)", "ticks(int)", "at(int,int,int)", "ofLoop(int,int)", "ofDevice(int,int)", "noted(int,int)",
        "ofJoin(int,int)", "find(int,int)", "count(int)", "valueIn(int,int,int)", "leftIn(int)", "firstLoss()",
        "bestPlace(int,int,int,int)", "bearable()", "put(long)", "wipe()", "fault()", "carryOut()", "undo()", "save(int)",
        "restore(int)",
    };

    public static void main(String[] args) throws Exception {
        constantsAreTheDocuments();
        methodsAreTheDocuments();
        classesInsideAreHidden();
        staticFieldsAreConstants();
        if (args.length > 0) {
            sourceKeepsTheRules(source(args[0]));
        }
        due.end();
    }

    private static boolean isSeen(Member m) {
        return !Modifier.isPrivate(m.getModifiers()) && !m.isSynthetic();
    }

    private static void sameSet(String what, Set<String> got, String[] want) {
        Set<String> wanted = new TreeSet<>(Arrays.asList(want));
        due.holds(what + " are " + wanted + ", and were " + got, got.equals(wanted));
    }

    private static void constantsAreTheDocuments() throws Exception {
        Set<String> got = new TreeSet<>();
        for (Field f : FibreLoops.class.getDeclaredFields()) {
            if (isSeen(f)) {
                int all = Modifier.PUBLIC | Modifier.STATIC | Modifier.FINAL;
                due.holds(f + " is a public constant of int", f.getModifiers() == all && f.getType() == int.class);
                got.add(f.getName() + "=" + f.getInt(null));
            }
        }
        sameSet("the constants", got, CONSTANTS);
    }

    private static void methodsAreTheDocuments() {
        Set<String> got = new TreeSet<>();
        Set<String> names = new TreeSet<>();
        for (Method m : FibreLoops.class.getDeclaredMethods()) {
            if (isSeen(m)) {
                due.holds(m + " is a public method of int", m.getModifiers() == Modifier.PUBLIC && m.getReturnType() == int.class);
                got.add(m.toString().replaceAll(".*FibreLoops\\.", ""));
                names.add(m.getName());
            }
        }
        sameSet("the methods", got, METHODS);
        for (Class<?> c : classes()) {
            for (Method m : c.getDeclaredMethods()) {
                boolean hidden = c != FibreLoops.class || Modifier.isPrivate(m.getModifiers());
                due.holds(m + " has a name of its own", !hidden || !names.contains(m.getName()));
                due.holds(m + " takes seven at most", m.getParameterCount() <= 7);
            }
        }
        due.is("constructors", FibreLoops.class.getDeclaredConstructors().length, 1);
        due.is("its modifiers", FibreLoops.class.getDeclaredConstructors()[0].getModifiers(), Modifier.PUBLIC);
        due.is("its parameters", FibreLoops.class.getDeclaredConstructors()[0].getParameterCount(), 0);
        due.is("the class's modifiers", FibreLoops.class.getModifiers(), Modifier.PUBLIC | Modifier.FINAL);
    }

    private static List<Class<?>> classes() {
        List<Class<?>> all = new ArrayList<>(Arrays.asList(FibreLoops.class.getDeclaredClasses()));
        all.add(FibreLoops.class);
        return all;
    }

    private static void classesInsideAreHidden() {
        due.holds("twelve classes at most", classes().size() <= 12);
        for (Class<?> c : classes()) {
            int modifiers = c.getModifiers();
            if (c != FibreLoops.class) {
                due.holds(c + " is static", Modifier.isStatic(modifiers));
                due.holds(c + " is hidden", !Modifier.isPublic(modifiers) && !Modifier.isProtected(modifiers));
                due.is(c + ": classes inside", c.getDeclaredClasses().length, 0);
            }
            long fields = Arrays.stream(c.getDeclaredFields()).filter(f -> !Modifier.isStatic(f.getModifiers())).count();
            due.holds(c + " has twenty fields at most", fields <= 20);
        }
    }

    private static void staticFieldsAreConstants() {
        Set<Class<?>> types = Set.of(int.class, long.class, boolean.class, char.class, String.class, int[].class, long[].class,
            char[].class, byte[].class);
        for (Class<?> c : classes()) {
            for (Field f : c.getDeclaredFields()) {
                if (Modifier.isStatic(f.getModifiers())) {
                    due.holds(f + " is final", Modifier.isFinal(f.getModifiers()));
                    due.holds(f + " is of a constant's type", types.contains(f.getType()));
                }
            }
        }
    }

    private static String source(String file) throws IOException {
        String text = Files.readString(Path.of(file));
        due.holds("all signs are 1 to 127", text.chars().allMatch(c -> c >= 1 && c <= 127));
        return text.replaceAll("(?s)/\\*.*?\\*/", "").replaceAll("//[^\n]*", "");
    }

    private static void sourceKeepsTheRules(String code) {
        String[] banned = {
            "package", "import", "throw", "throws", "try", "catch", "finally", "synchronized", "assert", "volatile", "native",
            "System.(?!arraycopy)", "Thread", "Runtime", "Random", "Object", "Exact", "equals", "hashCode", "toString",
            "getClass", "java", "protected", "float", "double", "var", "instanceof",
        };
        for (String word : banned) {
            Matcher found = Pattern.compile("\\b" + word + (word.endsWith(")") ? "" : "\\b")).matcher(code);
            due.holds("the source is without " + word, !found.find());
        }
        due.holds("no lambda or arrow", !code.contains("->"));
        due.holds("no method reference", !code.contains("::"));
        due.holds("no annotation", !code.contains("@"));
        due.holds("no text is joined by +", !code.contains("\""));
        due.holds("no array of objects is copied by arraycopy", !Pattern.compile("arraycopy\\((states|rings|devices|joins|slots)").matcher(code).find());
        methodsAreShort(code);
    }

    private static void methodsAreShort(String code) {
        String[] lines = code.split("\n");
        int from = -1;
        String end = "";
        for (int i = 0; i < lines.length; i++) {
            Matcher head = Pattern.compile("^( {4}| {8})(public|private).*\\) \\{$").matcher(lines[i]);
            if (head.find()) {
                from = i;
                end = head.group(1) + "}";
            } else if (from >= 0 && lines[i].equals(end)) {
                due.holds("a method of sixty lines at most: " + lines[from].trim(), i - from < 60);
                from = -1;
            }
        }
    }
}
