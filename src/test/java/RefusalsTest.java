/**
 * For each argument of each call the last value that is as told and the first that is not, at both ends, on an object
 * that has nothing yet, on one that has something and on one that is full; and that a refused call changes nothing but
 * STATUS, and a question nothing at all. What a call changed is seen by a twin that did not get it.
 */
public final class RefusalsTest extends Twins {
    private interface Asked {
        long by(FourHands x, int[] a);
    }

    /** As a bound: the last NOTE that there is, if there is one. */
    private static final int LAST_NOTE = MIN;

    public static void main(String[] args) {
        states();
        pieceCalls();
        playerCalls();
        pedalCalls();
        practiceCalls();
        whatThereIs();
        badAheadOfTheRest();
        noes();
        fulls();
        questions();
        notRefused();
        end("RefusalsTest");
    }

    // ---- the objects

    private static void states() {
        promise = 1;
        FourHands x = make(FILLED);
        int[] full = {12, 8, 2, 64, 10, 150};
        for (int what = 0; what < 6; what++) due("count(" + what + ") of the full one", x.count(what), full[what]);
        due("from(0)", x.from(0), 1);
        due("from(1)", x.from(1), 1);
        due("read()", x.read(), 3);
        x = make(SOME);
        int[] less = {3, 3, 2, 8, 3, 25};
        for (int what = 0; what < 6; what++) due("count(" + what + ") of the other one", x.count(what), less[what]);
    }

    // ---- what a refused call may change

    private static void refused(int state, int sort, long answer, String name, Call call) {
        FourHands hit = make(state);
        due(name, call.on(hit), answer);
        changesOnly(sort, name, hit, make(state));
    }

    private static void asked(int state, String name, Call call) {
        FourHands hit = make(state);
        call.on(hit);
        changesOnly(NOBODY, name, hit, make(state));
    }

    private static String told(String name, int state, int[] a) {
        StringBuilder s = new StringBuilder(name).append('(');
        for (int i = 0; i < a.length; i++) s.append(i == 0 ? "" : ", ").append(a[i]);
        return s.append(") in state ").append(state).toString();
    }

    /** Each argument at its bounds and just outside, and far outside, while the others are as they are told in good. */
    private static void bounds(String name, long answer, int[] good, int[] low, int[] high, Asked call) {
        for (int state = 0; state < STATES; state++) {
            for (int k = 0; k < good.length; k++) {
                int last = high[k] == LAST_NOTE ? make(state).count(0) - 1 : high[k];
                for (int v : new int[] {low[k], last, low[k] - 1, last + 1, MIN, MAX}) {
                    int[] a = good.clone();
                    a[k] = v;
                    if (v < low[k] || v > last) {
                        refused(state, BADS, answer, told(name, state, a), x -> call.by(x, a));
                    } else if (noteIsThere(state, high, a)) {
                        taken(state, answer, told(name, state, a), x -> call.by(x, a));
                    }
                }
            }
        }
    }

    private static boolean noteIsThere(int state, int[] high, int[] a) {
        for (int k = 0; k < a.length; k++) {
            if (high[k] == LAST_NOTE && a[k] >= make(state).count(0)) return false;
        }
        return true;
    }

    private static void taken(int state, long bad, String name, Call call) {
        FourHands x = make(state);
        long was = x.status(0);
        due(name + " is not BAD", call.on(x) == bad ? 1 : 0, 0);
        if (!name.startsWith("piece")) due("status(0) behind " + name, x.status(0), was);
    }

    private static int[] row(int... a) {
        return a;
    }

    // ---- the calls

    private static void pieceCalls() {
        promise = 2;
        bounds("piece", -2, row(5), row(0), row(9), (x, a) -> x.piece(a[0]));
        promise = 3;
        bounds("hand", -2, row(1, 1, 1, 1), row(0, 0, 0, 1), row(3, 5, 15, 9), (x, a) -> x.hand(a[0], a[1], a[2], a[3]));
        promise = 4;
        bounds("note", -2, row(5, 0, 1, 0, 5, 0), row(0, 0, 1, 0, 0, -1), row(47, 63, 8, 1, 9, 3),
                (x, a) -> x.note(a[0], a[1], a[2], a[3], a[4], a[5]));
        for (int length = 1; length <= 8; length++) {
            int of = length;
            bounds("note of " + length, -2, row(0), row(0), row(64 - length), (x, a) -> x.note(5, a[0], of, 0, 5, 0));
        }
        for (int moment = 56; moment < 64; moment++) {
            int at = moment;
            bounds("note at " + moment, -2, row(1), row(1), row(64 - moment), (x, a) -> x.note(5, at, a[0], 0, 5, 0));
        }
        promise = 5;
        bounds("type", -2, row(32), row(0), row(127), (x, a) -> x.type(a[0]));
    }

    private static void playerCalls() {
        promise = 8;
        bounds("give", -2, row(0, 0), row(0, -1), row(LAST_NOTE, 3), (x, a) -> x.give(a[0], a[1]));
        promise = 10;
        bounds("of", -10, row(0, 0), row(0, 0), row(LAST_NOTE, 5), (x, a) -> x.of(a[0], a[1]));
        promise = 11;
        bounds("about", -2, row(0, 0), row(0, 0), row(3, 4), (x, a) -> x.about(a[0], a[1]));
        promise = 12;
        bounds("clash, a", -2, row(0), row(0), row(LAST_NOTE), (x, a) -> x.clash(a[0], a[0] == 0 ? 1 : 0));
        bounds("clash, b", -2, row(0), row(0), row(LAST_NOTE), (x, a) -> x.clash(a[0] == 0 ? 1 : 0, a[0]));
        for (int state = 0; state < STATES; state++) {
            for (int i = 0; i < 12; i++) {
                int note = i;
                refused(state, BADS, -2, "clash of " + i + " with itself", x -> x.clash(note, note));
            }
        }
        promise = 13;
        bounds("clashes", -10, row(-1, -1), row(-1, -1), row(5, MAX), (x, a) -> x.clashes(a[0], a[1]));
        promise = 14;
        bounds("given", -10, row(1, -1), row(0, -1), row(2, MAX), (x, a) -> x.given(a[0], a[1]));
        promise = 16;
        bounds("fingers", -10, row(1, -1), row(0, -1), row(3, MAX), (x, a) -> x.fingers(a[0], a[1]));
    }

    private static void pedalCalls() {
        promise = 17;
        bounds("pedal", -2, row(0, 64), row(0, 0), row(64, 64), (x, a) -> x.pedal(a[0], a[1]));
        for (int from : new int[] {0, 1, 31, 63, 64}) {
            int by = from;
            bounds("pedal from " + from, -2, row(64), row(from), row(64), (x, a) -> x.pedal(by, a[0]));
            bounds("pedal to " + from, -2, row(0), row(0), row(from), (x, a) -> x.pedal(a[0], by));
        }
        promise = 18;
        bounds("blurs", -2, row(0), row(0), row(1), (x, a) -> x.blurs(a[0]));
        promise = 19;
        bounds("best", -2, row(0), row(0), row(1), (x, a) -> x.best(a[0]));
        promise = 20;
        bounds("turns", -2, row(5, 5, 0), row(0, 0, -1), row(63, 9, 1), (x, a) -> x.turns(a[0], a[1], a[2]));
    }

    private static void practiceCalls() {
        promise = 23;
        bounds("practice", -10, row(3, 0), row(0, -1), row(6, MAX), (x, a) -> x.practice(a[0], a[1]));
        promise = 24;
        bounds("breath", -2, row(3, 3), row(0, 0), row(20, 20), (x, a) -> x.breath(a[0], a[1]));
        promise = 25;
        bounds("heard", -10, row(0, 0), row(0, -1), row(LAST_NOTE, 9), (x, a) -> x.heard(a[0], a[1]));
        promise = 27;
        bounds("evening", -2, row(7, 50), row(0, 0), row(999999, 100), (x, a) -> x.evening(a[0], a[1]));
    }

    private static void whatThereIs() {
        promise = 28;
        bounds("part", -2, row(0), row(0), row(1), (x, a) -> x.part(a[0]));
        promise = 29;
        bounds("image", -2, row(0), row(0), row(1), (x, a) -> x.image(a[0]));
        promise = 30;
        bounds("from", -2, row(0), row(0), row(1), (x, a) -> x.from(a[0]));
        promise = 31;
        bounds("status", -1, row(0), row(0), row(2), (x, a) -> x.status(a[0]));
        promise = 32;
        bounds("count", -2, row(0), row(0), row(5), (x, a) -> x.count(a[0]));
    }

    // ---- which refusal comes first, and the others

    private static void badAheadOfTheRest() {
        promise = 4;
        refused(FILLED, BADS, -2, "a 13th that is BAD", x -> x.note(48, 0, 1, 0, 0, 0));
        promise = 5;
        refused(FILLED, BADS, -2, "a 151st that is BAD", x -> x.type(128));
        promise = 30;
        refused(FRESH, BADS, -2, "from(2), none was kept", x -> x.from(2));
        promise = 16;
        for (int i : new int[] {-2, MIN}) {
            FourHands x = nine();
            due("fingers(2, " + i + ") of 9", x.fingers(2, i), -10);
            changesOnly(BADS, "fingers(2, " + i + ") of 9", x, nine());
        }
    }

    private static FourHands nine() {
        FourHands x = new FourHands();
        for (int i = 0; i < 9; i++) x.note(i, i, 1, 0, 0, 2);
        return x;
    }

    private static void noes() {
        promise = 9;
        refused(FRESH, NOES, -3, "undo(), nothing was given", x -> x.undo());
        promise = 16;
        for (int i : new int[] {-1, 0, 8, 9, MAX}) {
            FourHands x = nine();
            due("fingers(2, " + i + ") of 9", x.fingers(2, i), -20);
            changesOnly(NOES, "fingers(2, " + i + ") of 9", x, nine());
        }
        promise = 30;
        refused(FRESH, NOES, -3, "from(0), none was kept", x -> x.from(0));
        refused(FRESH, NOES, -3, "from(1), none was kept", x -> x.from(1));
        refused(SOME, NOES, -3, "from(0), only the other one was kept", x -> x.from(0));
    }

    private static void fulls() {
        promise = 4;
        refused(FILLED, FULLS, -4, "a 13th", x -> x.note(5, 5, 1, 0, 5, 0));
        refused(FILLED, FULLS, -4, "a 13th, left out", x -> x.note(47, 56, 8, 1, 9, -1));
        promise = 5;
        for (int c : new int[] {0, 32, 59, 127}) refused(FILLED, FULLS, -4, "a 151st", x -> x.type(c));
    }

    // ---- calls that are not refused and change nothing

    private static void questions() {
        for (int state = 0; state < STATES; state++) {
            promise = 10;
            for (int w = 0; w < 6 && state != FRESH; w++) { int what = w; asked(state, "of", x -> x.of(0, what)); }
            promise = 11;
            for (int w = 0; w < 5; w++) { int what = w; asked(state, "about", x -> x.about(3, what)); }
            promise = 12;
            if (state != FRESH) asked(state, "clash", x -> x.clash(0, 1));
            promise = 13;
            for (int i : new int[] {-1, 0, 66}) asked(state, "clashes", x -> x.clashes(-1, i));
            promise = 14;
            for (int i : new int[] {-1, 0, 1, 2}) asked(state, "given", x -> x.given(2, i));
            promise = 15;
            asked(state, "out", x -> x.out());
            promise = 16;
            for (int i : new int[] {-1, 0, 8}) asked(state, "fingers", x -> x.fingers(1, i));
            promise = 18;
            for (int w : new int[] {0, 1}) asked(state, "blurs", x -> x.blurs(w));
            promise = 19;
            for (int w : new int[] {0, 1}) asked(state, "best", x -> x.best(w));
            promise = 20;
            for (int h : new int[] {0, 9}) asked(state, "turns", x -> x.turns(2, h, -1));
            promise = 21;
            asked(state, "covered", x -> x.covered());
            promise = 22;
            asked(state, "places", x -> x.places());
            promise = 23;
            for (int i : new int[] {-1, 0, 6}) asked(state, "practice", x -> x.practice(6, i));
            promise = 26;
            asked(state, "late", x -> x.late());
            promise = 27;
            for (int w : new int[] {0, 50, 100}) asked(state, "evening", x -> x.evening(999999, w));
            promise = 28;
            for (int w : new int[] {0, 1}) asked(state, "part", x -> x.part(w));
            promise = 31;
            for (int w : new int[] {0, 1, 2}) asked(state, "status", x -> x.status(w));
            promise = 32;
            for (int w = 0; w < 6; w++) { int what = w; asked(state, "count", x -> x.count(what)); }
            promise = 33;
            asked(state, "digest", x -> x.digest());
        }
    }

    /** -5, NONE and a FAULT are answers as others are: not even STATUS changes. */
    private static void notRefused() {
        promise = 7;
        refused(FRESH, NOBODY, -10, "read() of an empty TEXT", x -> x.read());
        for (String text : new String[] {"piece 3;x", "piece 3;note 4 5 6 0 8 5;", "piece 3;hand 0 0 0 1", "piece 3;piece 3;"}) {
            for (int state = 0; state < STATES; state++) {
                FourHands hit = make(state);
                FourHands twin = make(state);
                typed(hit, text);
                typed(twin, text);
                due("read() of a FAULT", hit.read() <= -10 ? 1 : 0, 1);
                changesOnly(NOBODY, "read() of " + text, hit, twin);
            }
        }
        for (int state = 0; state < STATES; state++) {
            promise = 13;
            refused(state, NOBODY, -5, "clashes(-1, 66)", x -> x.clashes(-1, 66));
            promise = 14;
            refused(state, NOBODY, -5, "given(2, 2)", x -> x.given(2, 2));
            refused(state, NOBODY, -5, "given(0, 0)", x -> x.given(0, 0));
            promise = 16;
            refused(state, NOBODY, -5, "fingers(0, 8)", x -> x.fingers(0, 8));
            promise = 23;
            refused(state, NOBODY, -5, "practice(0, 0)", x -> x.practice(0, 0));
            refused(state, NOBODY, -5, "practice(6, 6)", x -> x.practice(6, 6));
        }
    }
}
