import java.util.ArrayList;
import java.util.List;

/** Objects in three states, and what a call changed: it is seen by a twin that did not get the call. */
abstract class Twins extends Checks {
    protected interface Call {
        long on(FourHands x);
    }

    protected static final int BADS = 0, NOES = 1, FULLS = 2, NOBODY = -1;
    protected static final int FRESH = 0, SOME = 1, FILLED = 2, STATES = 3;

    // ---- objects, and all that can be seen of them

    protected static FourHands make(int state) {
        return state == FRESH ? new FourHands() : state == SOME ? some() : filled();
    }

    private static FourHands some() {
        FourHands x = of(n(10, 0, 4, 0), n(12, 2, 3, 2), n(30, 10, 1, -1));
        x.hand(1, 4, 12, 3);
        x.pedal(1, 9);
        x.heard(0, 2);
        x.breath(2, 1);
        x.give(1, 3);
        x.image(1);
        x.give(0, 1);
        x.give(2, 3);
        typed(x, "piece 5;note 7 7 7 1 7 3;");
        x.status(3);
        return x;
    }

    /** 12 NOTES, 10 that may be undone, 150 bytes, both IMAGES, all HANDS and all that was HEARD told. */
    private static FourHands filled() {
        FourHands x = new FourHands();
        for (int i = 0; i < 12; i++) x.note(4 * i, 5 * i, 1 + i % 8, i % 2, i % 10, i % 4);
        for (int h = 0; h < 4; h++) x.hand(h, 2 + h, 15 - h, 9 - h);
        for (int i = 0; i < 12; i++) x.heard(i, i % 10);
        x.pedal(0, 64);
        x.breath(20, 7);
        x.image(0);
        for (int i = 0; i < 12; i++) x.give(i, i % 3 - 1);
        x.image(1);
        x.give(5, 3);
        typed(x, "piece 3;hand 1 1 9 4;" + " ".repeat(112) + "note 4 5 6 0 8 3;");
        x.type(32);
        return x;
    }

    private static long[] statuses(FourHands x) {
        return new long[] {x.status(0), x.status(1), x.status(2)};
    }

    /** It is used up by this: undone, gone on from its IMAGES, read from its TEXT. */
    private static List<Long> examine(FourHands x) {
        List<Long> seen = new ArrayList<>();
        takeBackAll(x, seen);
        for (int i = 0; i < 2; i++) {
            seen.add((long) x.from(i));
            takeBackAll(x, seen);
        }
        seen.add((long) x.read());
        seen.add(x.digest());
        seen.add((long) x.clear());
        return seen;
    }

    private static void takeBackAll(FourHands x, List<Long> seen) {
        seen.add(x.digest());
        for (int i = 0; i < 11; i++) {
            seen.add((long) x.undo());
            seen.add(x.digest());
        }
    }

    // ---- what a call may change

    /** The one is as the other but for that part of STATUS (NOBODY: in all). */
    protected static void changesOnly(int sort, String name, FourHands hit, FourHands twin) {
        long[] got = statuses(hit);
        long[] want = statuses(twin);
        for (int s = 0; s < 3; s++) due("status(" + s + ") behind " + name, got[s], want[s] + (s == sort ? 1 : 0));
        due("all else behind " + name, examine(hit).equals(examine(twin)) ? 1 : 0, 1);
    }
}
