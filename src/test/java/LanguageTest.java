import java.lang.management.ManagementFactory;
import java.nio.file.Files;
import java.nio.file.Path;
import java.util.List;
import java.util.regex.Matcher;
import java.util.regex.Pattern;

/** Rules of LANGUAGE.md that can be seen in the source, and that calls make no objects. */
public final class LanguageTest {
    private static int wrong;

    private static void fault(String what) {
        wrong++;
        System.out.println("LanguageTest: " + what);
    }

    public static void main(String[] args) throws Exception {
        String source = Files.readString(Path.of(args.length > 0 ? args[0] : "src/main/java/FourHands.java"));
        String code = source.replaceAll("(?s)/\\*.*?\\*/", "").replaceAll("//[^\n]*", "");
        forbiddenWords(code);
        library(code);
        methods(code);
        newOnlyInFields(code);
        room();
        System.out.println(wrong == 0 ? "LanguageTest: nothing outside the rules was seen" : "LanguageTest: " + wrong + " faults");
        if (wrong != 0) System.exit(1);
    }

    private static void forbiddenWords(String code) {
        List<String> words = List.of("\\bthrow\\b", "\\bthrows\\b", "\\btry\\b", "\\bcatch\\b", "\\bassert\\b", "\\bsynchronized\\b", "\\bprotected\\b",
                "->", "::", "\\bstatic\\s*\\{", "\\bpackage\\b", "\"\\s*\\+", "\\+\\s*\"", "\\bvar\\b", "\\bObject\\b", "@");
        for (String word : words) {
            if (Pattern.compile(word).matcher(code).find()) fault("the source has " + word);
        }
        for (int i = 0; i < code.length(); i++) {
            if (code.charAt(i) > 126) fault("a sign above 126");
        }
        for (String line : code.split("\n")) {
            if (line.startsWith("import") && !line.equals("import java.util.Arrays;")) fault(line);
        }
    }

    private static void library(String code) {
        Matcher calls = Pattern.compile("\\b(Math|Integer|Long|Arrays|System|String)\\.(\\w+)").matcher(code);
        List<String> known = List.of("Math.abs", "Math.max", "Math.min", "Integer.bitCount", "Arrays.fill", "System.arraycopy");
        while (calls.find()) {
            if (!known.contains(calls.group())) fault(calls.group());
        }
    }

    /** Some sixty lines, seven parameters; some twelve classes; names of the face are the face's. */
    private static void methods(String code) {
        Matcher heads = Pattern.compile("(?m)^( {4}| {8})((?:\\w+ )*)(\\w+)\\(([^)]*)\\) \\{$").matcher(code);
        List<String> face = List.of("piece", "hand", "note", "type", "clear", "read", "give", "undo", "of", "about", "clash", "clashes", "given", "out",
                "fingers", "pedal", "blurs", "best", "turns", "covered", "places", "practice", "breath", "heard", "late", "evening", "part", "image", "from",
                "status", "count", "digest");
        int found = 0;
        while (heads.find()) {
            if (heads.group(2).isEmpty() && !Character.isUpperCase(heads.group(3).charAt(0))) continue;
            found++;
            String name = heads.group(3);
            if (heads.group(4).split(",").length > 7) fault(name + " has too many parameters");
            int end = code.indexOf("\n" + heads.group(1) + "}", heads.end());
            if (code.substring(heads.end(), end).split("\n").length > 60) fault(name + " is too long");
            if (!heads.group(2).contains("public") && face.contains(name)) fault(name + " is a name of the face");
        }
        if (found < 60) fault("only " + found + " methods were seen");
        if (code.split("\\bclass \\w+ \\{").length - 1 > 12) fault("too many classes");
    }

    private static void newOnlyInFields(String code) {
        for (String line : code.split("\n")) {
            if (line.contains("new ") && !line.matches(" +(private )?final .*")) fault("an object is made in a method: " + line.trim());
        }
    }

    /** No call may make an object: all calls of a run live in one room. */
    private static void room() {
        FourHands x = new FourHands();
        long sum = calls(x, 3);
        com.sun.management.ThreadMXBean bean = (com.sun.management.ThreadMXBean) ManagementFactory.getThreadMXBean();
        bean.getCurrentThreadAllocatedBytes();
        long before = bean.getCurrentThreadAllocatedBytes();
        sum += calls(x, 300);
        long made = bean.getCurrentThreadAllocatedBytes() - before;
        if (made > 5000) fault("calls made " + made + " bytes of objects (" + sum + ")");
    }

    private static long calls(FourHands x, int rounds) {
        long sum = 0;
        for (int r = 0; r < rounds; r++) {
            sum += x.piece(r % 10);
            sum += x.type('p') + x.type('i') + x.type('e') + x.type('c') + x.type('e') + x.type('1') + x.type(';') + x.read() + x.clear();
            for (int n = 0; n < 13; n++) sum += x.note(n * 7 % 48, n * 5 % 56, 1 + n % 8, n % 2, n % 10, n % 4);
            for (int n = 0; n < 12; n++) sum += x.give(n, (n + r) % 4) + x.heard(n, n % 3) + x.of(n, n % 6);
            for (int h = 0; h < 4; h++) sum += x.hand(h, (h + r) % 6, 9, 4) + x.fingers(h, -1) + x.fingers(h, 1) + x.about(h, h);
            sum += x.undo() + x.clash(1, 2) + x.clashes(-1, -1) + x.clashes(-1, 0) + x.given(1, -1) + x.given(2, 0) + x.out() + x.pedal(1, 60);
            sum += x.blurs(0) + x.blurs(1) + x.best(0) + x.best(1) + x.turns(20, 9, -1) + x.covered() + x.places() + x.practice(6, 0);
            sum += x.breath(20, 7) + x.late() + x.evening(r, 50) + x.part(0) + x.image(0) + x.from(0) + x.from(1) + x.status(0) + x.count(0) + x.digest();
        }
        return sum;
    }
}
