import java.lang.reflect.Constructor;
import java.lang.reflect.Field;
import java.lang.reflect.Method;
import java.lang.reflect.Modifier;
import java.nio.charset.StandardCharsets;
import java.nio.file.Files;
import java.nio.file.Path;
import java.util.Set;
import java.util.TreeSet;

/** The document's face, no more and no less, and those rules of LANGUAGE.md that a look at the text can tell. */
public final class SnowmeltStreamsFaceTest {
    private static final String INDEX = "IndexOutOfBoundsException";
    private static final String ARGUMENT = "IllegalArgumentException";
    private static final String STATE = "IllegalStateException";
    private static int wrong = 0;

    private static void same(String what, Object want, Object got) {
        if (!want.equals(got)) {
            wrong++;
            System.out.println(what + ": found " + got + ", due is " + want);
        }
    }

    private static String told(String name, String type, Class<?>[] takes, Class<?>[] throwing) {
        StringBuilder text = new StringBuilder(type + " " + name + "(");
        for (Class<?> c : takes) {
            text.append(c.getSimpleName()).append(' ');
        }
        text.append(")");
        for (Class<?> c : throwing) {
            text.append(' ').append(c.getSimpleName());
        }
        return text.toString();
    }

    private static void members() {
        Set<String> want = new TreeSet<>(Set.of(
                "void job(int int int int int boolean ) " + ARGUMENT + " " + STATE,
                "int slack(int int ) " + INDEX + " " + ARGUMENT + " " + STATE,
                "int append(int int int int ) " + INDEX + " " + ARGUMENT + " " + STATE,
                "int read(int ) " + INDEX + " " + STATE,
                "boolean idle(int boolean ) " + INDEX,
                "int take(int ) " + INDEX + " " + STATE,
                "int barrier() " + STATE,
                "int confirm() " + STATE,
                "int fail()",
                "int workers(int ) " + ARGUMENT + " " + STATE,
                "int watermark()",
                "int sourceWatermark(int ) " + INDEX,
                "int offset(int ) " + INDEX,
                "int inChannel(int ) " + INDEX,
                "int open(int ) " + INDEX,
                "int sumAt(int int ) " + INDEX + " " + ARGUMENT,
                "int dropped()",
                "int pairs()",
                "int pairsAnew()",
                "int uncommitted()",
                "int result(int int int ) " + INDEX + " " + ARGUMENT,
                "int resultAnew(int int int ) " + INDEX + " " + ARGUMENT));
        Set<String> got = new TreeSet<>();
        Set<String> publicNames = new TreeSet<>();
        for (Method m : SnowmeltStreams.class.getDeclaredMethods()) {
            if (!Modifier.isPrivate(m.getModifiers())) {
                same(m.getName() + " is public alone", Modifier.PUBLIC, m.getModifiers());
                got.add(told(m.getName(), m.getReturnType().getSimpleName(), m.getParameterTypes(), m.getExceptionTypes()));
                publicNames.add(m.getName());
            }
        }
        same("methods", want, got);
        for (Class<?> c : SnowmeltStreams.class.getDeclaredClasses()) {
            same(c.getSimpleName() + " is static", true, Modifier.isStatic(c.getModifiers()));
            for (Method m : c.getDeclaredMethods()) {
                same(m.getName() + " bears a name of the face", false, publicNames.contains(m.getName()));
            }
        }
        for (Method m : SnowmeltStreams.class.getDeclaredMethods()) {
            if (Modifier.isPrivate(m.getModifiers())) {
                same(m.getName() + " bears a name of the face", false, publicNames.contains(m.getName()));
            }
        }
    }

    private static void constants() throws IllegalAccessException {
        Set<String> got = new TreeSet<>();
        for (Field f : SnowmeltStreams.class.getDeclaredFields()) {
            if (!Modifier.isPrivate(f.getModifiers())) {
                same(f.getName(), Modifier.PUBLIC | Modifier.STATIC | Modifier.FINAL, f.getModifiers());
                got.add(f.getType() + " " + f.getName() + " " + f.getInt(null));
            }
        }
        same("constants", new TreeSet<>(Set.of("int NONE -1", "int TUMBLE 0", "int SLIDE 1", "int GAP 2", "int EVENT 0",
                "int LATE 1", "int DROPPED 2", "int BARRIER 3", "int LAST_BARRIER 4")), got);
        same("the class", Modifier.PUBLIC | Modifier.FINAL, SnowmeltStreams.class.getModifiers());
        Constructor<?>[] makers = SnowmeltStreams.class.getDeclaredConstructors();
        same("constructors", 1, makers.length);
        same("the constructor", "int new()", told("new", "int", makers[0].getParameterTypes(), makers[0].getExceptionTypes()));
        same("the constructor", Modifier.PUBLIC, makers[0].getModifiers());
    }

    private static void text(String file) throws java.io.IOException {
        String text = Files.readString(Path.of(file), StandardCharsets.US_ASCII);
        String code = text.replaceAll("(?s)/\\*.*?\\*/", "").replaceAll("//[^\n]*", "").replaceAll("\"[^\"\n]*\"", "\"\"");
        for (String sign : new String[] {"->", "::", "\" +", "+ \""}) {
            same("has " + sign, false, code.contains(sign));
        }
        for (String word : new String[] {"package", "catch", "finally", "try", "synchronized", "assert", "volatile", "Object",
            "Exact", "Random", "Thread", "System", "long", "double", "float", "equals", "hashCode", "toString"}) {
            same("has " + word, false, code.matches("(?s).*\\b" + word + "\\b.*"));
        }
        same("imports", code.split("\nimport |^import ").length - 1, 1);
        same("imports ArrayList", true, code.contains("import java.util.ArrayList;"));
        int start = -1;
        String[] lines = code.split("\n");
        for (int i = 0; i < lines.length; i++) {
            if (lines[i].matches("( {4}| {8})[\\w<>\\[\\] ]+\\(.*\\{") || lines[i].matches(" {12}throws .*\\{")) {
                start = i;
            }
            if (start >= 0 && lines[i].matches(" {4}( {4})?\\}")) {
                same("a method of more than 60 lines ends in line " + (i + 1), false, i - start > 60);
                start = -1;
            }
            same("line " + (i + 1) + " is longer than 125", false, lines[i].length() > 125);
        }
        same("at most twelve classes", true, SnowmeltStreams.class.getDeclaredClasses().length <= 11);
    }

    /** The argument is the path of the program's file. */
    public static void main(String[] args) throws Exception {
        members();
        constants();
        text(args.length > 0 ? args[0] : "src/main/java/SnowmeltStreams.java");
        System.out.println(wrong == 0 ? "the face is the document's" : wrong + " faults of the face or the text");
        if (wrong != 0) {
            System.exit(1);
        }
    }
}
