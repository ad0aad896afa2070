import java.util.ArrayList;
import java.util.List;
import java.util.Random;

/** Runs of calls, ordinary and wrong, on FourHands and on the Oracle: each answer must be the same. */
public final class RandomRunsTest {
    private static final int RUNS = 500;
    private static final int CALLS = 512;
    private static int wrong;

    private final Random random;
    private final int run;
    private final FourHands got = new FourHands();
    private final Oracle want = new Oracle();
    private final List<String> calls = new ArrayList<>();
    private final int keys;
    private final int moments;
    private final boolean texts;

    private RandomRunsTest(int run) {
        this.run = run;
        random = new Random(run);
        // Narrow pieces clash often, wide ones show the edges.
        keys = new int[] {6, 14, 30, 48}[random.nextInt(4)];
        moments = new int[] {8, 16, 30, 64}[random.nextInt(4)];
        // Typing takes most of a run's calls: two of three runs do without.
        texts = random.nextInt(3) == 0;
    }

    public static void main(String[] args) {
        for (int run = 0; run < RUNS && wrong < 20; run++) {
            new RandomRunsTest(run).play();
        }
        System.out.println(wrong == 0 ? "RandomRunsTest: all answers alike" : "RandomRunsTest: " + wrong + " answers differ");
        if (wrong != 0) System.exit(1);
    }

    private void play() {
        while (calls.size() < CALLS && wrong < 20) {
            step();
            if (random.nextInt(8) == 0) same("digest()", got.digest(), want.digest());
        }
    }

    private void same(String call, long a, long b) {
        calls.add(call);
        if (a != b) {
            wrong++;
            System.out.println("run " + run + ", call " + calls.size() + ": " + call + " answered " + a + ", the oracle " + b);
        }
    }

    /** Low to high as a rule, now and then just outside or far away. */
    private int in(int low, int high) {
        int kind = random.nextInt(60);
        if (kind == 0) return low - 1;
        if (kind == 1) return high + 1;
        if (kind == 2) return random.nextInt();
        if (kind == 3) return random.nextBoolean() ? Integer.MIN_VALUE : Integer.MAX_VALUE;
        return low + random.nextInt(high - low + 1);
    }

    private int aNote() {
        return in(0, Math.max(0, want.count(0) - 1));
    }

    private int aKey() {
        return random.nextInt(20) == 0 ? in(0, 47) : 48 - keys + random.nextInt(keys);
    }

    private int aMoment() {
        return random.nextInt(20) == 0 ? in(0, 63) : random.nextBoolean() || moments == 64 ? random.nextInt(moments) : 63 - random.nextInt(moments);
    }

    private void step() {
        switch (random.nextInt(46)) {
            case 0: {
                if (random.nextInt(12) == 0) { int n = in(0, 9); same("piece(" + n + ")", got.piece(n), want.piece(n)); }
                break;
            }
            case 1: case 2: {
                int h = in(0, 3), k = in(0, 5), r = in(0, 15), s = in(1, 9);
                same("hand(" + h + ", " + k + ", " + r + ", " + s + ")", got.hand(h, k, r, s), want.hand(h, k, r, s));
                break;
            }
            case 3: case 4: case 5: case 6: case 7: addNote(); break;
            case 8: if (texts) typeText(); break;
            case 9: case 10: case 11: case 12: {
                int n = aNote(), h = in(-1, 3);
                same("give(" + n + ", " + h + ")", got.give(n, h), want.give(n, h));
                break;
            }
            case 13: case 14: same("undo()", got.undo(), want.undo()); break;
            case 15: { int n = aNote(), w = in(0, 5); same("of(" + n + ", " + w + ")", got.of(n, w), want.of(n, w)); break; }
            case 16: { int h = in(0, 3), w = in(0, 4); same("about(" + h + ", " + w + ")", got.about(h, w), want.about(h, w)); break; }
            case 17: { int a = aNote(), b = aNote(); same("clash(" + a + ", " + b + ")", got.clash(a, b), want.clash(a, b)); break; }
            case 18: case 19: { int s = in(-1, 5), i = in(-1, 9); same("clashes(" + s + ", " + i + ")", got.clashes(s, i), want.clashes(s, i)); break; }
            case 20: case 21: { int m = in(0, 2), i = in(-1, 2); same("given(" + m + ", " + i + ")", got.given(m, i), want.given(m, i)); break; }
            case 22: case 23: same("out()", got.out(), want.out()); break;
            case 24: case 25: { int h = in(0, 3), i = in(-1, 8); same("fingers(" + h + ", " + i + ")", got.fingers(h, i), want.fingers(h, i)); break; }
            case 26: { int a = in(0, 64), b = random.nextInt(4) == 0 ? in(0, 64) : Math.min(64, a + random.nextInt(20)); same("pedal(" + a + ", " + b + ")", got.pedal(a, b), want.pedal(a, b)); break; }
            case 27: case 28: { int w = in(0, 1); same("blurs(" + w + ")", got.blurs(w), want.blurs(w)); break; }
            case 29: { int w = in(0, 1); same("best(" + w + ")", got.best(w), want.best(w)); break; }
            case 30: case 31: { int m = aMoment(), h = in(0, 9), p = in(-1, 1); same("turns(" + m + ", " + h + ", " + p + ")", got.turns(m, h, p), want.turns(m, h, p)); break; }
            case 32: same("covered()", got.covered(), want.covered()); break;
            case 33: same("places()", got.places(), want.places()); break;
            case 34: { int n = in(0, 6), i = in(-1, 6); same("practice(" + n + ", " + i + ")", got.practice(n, i), want.practice(n, i)); break; }
            case 35: { int n = in(0, 20), s = in(0, 20); same("breath(" + n + ", " + s + ")", got.breath(n, s), want.breath(n, s)); break; }
            case 36: case 37: { int n = aNote(), l = random.nextInt(3) > 0 ? 3 * random.nextInt(2) : in(-1, 9); same("heard(" + n + ", " + l + ")", got.heard(n, l), want.heard(n, l)); break; }
            case 38: case 39: same("late()", got.late(), want.late()); break;
            case 40: { int s = in(0, 999999), w = in(0, 100); same("evening(" + s + ", " + w + ")", got.evening(s, w), want.evening(s, w)); break; }
            case 41: { int w = in(0, 1); same("part(" + w + ")", got.part(w), want.part(w)); break; }
            case 42: { int i = in(0, 1); same("image(" + i + ")", got.image(i), want.image(i)); break; }
            case 43: { int i = in(0, 1); same("from(" + i + ")", got.from(i), want.from(i)); break; }
            case 44: { int w = in(0, 2); same("status(" + w + ")", got.status(w), want.status(w)); break; }
            default: { int w = in(0, 5); same("count(" + w + ")", got.count(w), want.count(w)); break; }
        }
    }

    private void addNote() {
        int k = aKey(), m = aMoment(), l = random.nextBoolean() ? in(1, 8) : in(1, 3), p = in(0, 1), v = in(0, 9), h = in(-1, 3);
        if (random.nextInt(3) > 0) h = random.nextInt(2) * 2;
        same("note(" + k + ", " + m + ", " + l + ", " + p + ", " + v + ", " + h + ")", got.note(k, m, l, p, v, h), want.note(k, m, l, p, v, h));
    }

    private void typeText() {
        if (random.nextInt(3) > 0) same("clear()", got.clear(), want.clear());
        StringBuilder text = new StringBuilder("piece " + in(0, 9) + ";");
        int items = random.nextInt(13);
        for (int i = 0; i < items; i++) {
            if (random.nextInt(4) == 0) {
                text.append("hand ").append(in(0, 3)).append(' ').append(in(0, 5)).append(' ').append(in(0, 15)).append(' ').append(in(1, 9)).append(';');
            } else {
                text.append("note ").append(random.nextInt(48)).append(' ').append(random.nextInt(63)).append(' ').append(1 + random.nextInt(3)).append(' ')
                        .append(in(0, 1)).append(' ').append(in(0, 9)).append(' ').append(in(0, 4)).append(';');
            }
        }
        int changes = random.nextInt(4) == 0 ? 1 + random.nextInt(2) : 0;
        for (int c = 0; c < changes; c++) spoil(text);
        for (int i = 0; i < text.length() && i < 152; i++) {
            int c = text.charAt(i);
            same("type(" + c + ")", got.type(c), want.type(c));
        }
        same("read()", got.read(), want.read());
    }

    private void spoil(StringBuilder text) {
        int at = random.nextInt(text.length());
        String bytes = "0123456789;; piecehandnote\tA\u007f/:`{\u0000";
        switch (random.nextInt(3)) {
            case 0: text.deleteCharAt(at); break;
            case 1: text.insert(at, bytes.charAt(random.nextInt(bytes.length()))); break;
            default: text.setCharAt(at, bytes.charAt(random.nextInt(bytes.length()))); break;
        }
        if (text.length() == 0) text.append(' ');
    }
}
