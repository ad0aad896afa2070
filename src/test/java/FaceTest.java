import java.lang.reflect.Constructor;
import java.lang.reflect.Field;
import java.lang.reflect.Method;
import java.lang.reflect.Modifier;
import java.nio.file.Files;
import java.nio.file.Path;
import java.util.Set;
import java.util.TreeSet;
import java.util.regex.Matcher;
import java.util.regex.Pattern;

/** The face of the class is the one that the document tells, and nothing else can be seen of it. */
public final class FaceTest {
    private static final Path DOCUMENT = Path.of("../shared/DOC.md");
    /** As the document tells it. */
    private static final String TOLD = """
            public final class FourHands {
                public static final int NONE = -1, BAD = -2, NO = -3, FULL = -4;
                public FourHands();
                public int piece(int near);
                public int hand(int hand, int kind, int reach, int speed);
                public int note(int key, int moment, int length, int part, int loud, int hand);
                public int type(int c);
                public int clear();
                public int read();
                public int give(int note, int hand);
                public int undo();
                public int of(int note, int what);
                public int about(int hand, int what);
                public int clash(int a, int b);
                public int clashes(int sort, int i);
                public int given(int m, int i);
                public int out();
                public int fingers(int hand, int i);
                public int pedal(int from, int to);
                public int blurs(int what);
                public int best(int what);
                public int turns(int moment, int h, int person);
                public long covered();
                public int places();
                public int practice(int n, int i);
                public int breath(int n, int s);
                public int heard(int note, int late);
                public int late();
                public int evening(int seed, int w);
                public long part(int what);
                public int image(int i);
                public int from(int i);
                public int status(int what);
                public int count(int what);
                public long digest();
            }
            """;
    private static int wrong;

    public static void main(String[] args) throws Exception {
        if (Files.isReadable(DOCUMENT)) must("this test has the document's own face", Files.readString(DOCUMENT).contains("```java\n" + TOLD + "```"));
        same("methods", toldMethods(TOLD), methods());
        same("constants", toldConstants(TOLD), constants());
        same("constructors", Set.of("FourHands()"), constructors());
        theClass();
        namesInside();
        classesInside();
        System.out.println(wrong == 0 ? "FaceTest: the face is as told" : "FaceTest: " + wrong + " faults");
        if (wrong != 0) System.exit(1);
    }

    private static void must(String what, boolean holds) {
        if (!holds) {
            wrong++;
            System.out.println("FaceTest: not so: " + what);
        }
    }

    private static void same(String what, Set<String> told, Set<String> there) {
        must(what + " are " + told + ", there are " + there, told.equals(there));
    }

    /** "int note(int, int)": what a caller needs, without the names of parameters. */
    private static Set<String> toldMethods(String told) {
        Set<String> found = new TreeSet<>();
        Matcher m = Pattern.compile("public (int|long) (\\w+)\\(([^)]*)\\);").matcher(told);
        while (m.find()) found.add(m.group(1) + " " + m.group(2) + "(" + m.group(3).replaceAll("(\\w+) \\w+", "$1") + ")");
        must("the document tells 32 methods", found.size() == 32);
        return found;
    }

    private static Set<String> methods() {
        Set<String> found = new TreeSet<>();
        for (Method m : FourHands.class.getDeclaredMethods()) {
            if (Modifier.isPrivate(m.getModifiers())) continue;
            must(m + " is public and of an object", Modifier.isPublic(m.getModifiers()) && !Modifier.isStatic(m.getModifiers()));
            must(m + " throws nothing", m.getExceptionTypes().length == 0);
            found.add(m.getReturnType() + " " + m.getName() + "(" + types(m.getParameterTypes()) + ")");
        }
        return found;
    }

    private static String types(Class<?>[] types) {
        StringBuilder s = new StringBuilder();
        for (Class<?> t : types) s.append(s.length() == 0 ? "" : ", ").append(t);
        return s.toString();
    }

    private static Set<String> toldConstants(String told) {
        Set<String> found = new TreeSet<>();
        Matcher line = Pattern.compile("public static final int ([^;]*);").matcher(told);
        while (line.find()) {
            for (String one : line.group(1).split(",")) found.add("int " + one.trim());
        }
        must("the document tells 4 constants", found.size() == 4);
        return found;
    }

    private static Set<String> constants() throws Exception {
        Set<String> found = new TreeSet<>();
        for (Field f : FourHands.class.getDeclaredFields()) {
            int is = f.getModifiers();
            if (Modifier.isPrivate(is)) continue;
            must(f + " is a public constant", Modifier.isPublic(is) && Modifier.isStatic(is) && Modifier.isFinal(is));
            found.add(f.getType() + " " + f.getName() + " = " + f.getInt(null));
        }
        return found;
    }

    private static Set<String> constructors() {
        Set<String> found = new TreeSet<>();
        for (Constructor<?> c : FourHands.class.getDeclaredConstructors()) {
            must(c + " is public", Modifier.isPublic(c.getModifiers()));
            found.add("FourHands(" + types(c.getParameterTypes()) + ")");
        }
        return found;
    }

    private static void theClass() {
        int is = FourHands.class.getModifiers();
        must("the class is public and final", Modifier.isPublic(is) && Modifier.isFinal(is));
        must("the class has no package", FourHands.class.getPackageName().isEmpty());
        must("the class is under no other one", FourHands.class.getSuperclass() == Object.class);
        must("the class implements nothing", FourHands.class.getInterfaces().length == 0);
    }

    private static void namesInside() {
        Set<String> face = new TreeSet<>();
        for (Method m : FourHands.class.getMethods()) face.add(m.getName());
        for (Method m : FourHands.class.getDeclaredMethods()) {
            if (Modifier.isPrivate(m.getModifiers())) must(m + " bears a name of its own", !face.contains(m.getName()));
        }
        staticFieldsAreFinal(FourHands.class);
    }

    private static void classesInside() {
        Class<?>[] inside = FourHands.class.getDeclaredClasses();
        must("there are some twelve classes at most", inside.length + 1 <= 12);
        for (Class<?> c : inside) {
            int is = c.getModifiers();
            must(c + " is static", Modifier.isStatic(is));
            must(c + " is private or package-visible", !Modifier.isPublic(is) && !Modifier.isProtected(is));
            staticFieldsAreFinal(c);
        }
    }

    /** Some twenty fields beside constants; no state but an object's own. */
    private static void staticFieldsAreFinal(Class<?> c) {
        int ofObjects = 0;
        for (Field f : c.getDeclaredFields()) {
            if (Modifier.isStatic(f.getModifiers())) must(f + " is final", Modifier.isFinal(f.getModifiers()));
            else ofObjects++;
        }
        must(c + " has some twenty fields at most", ofObjects <= 20);
    }
}
