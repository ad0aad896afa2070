import java.util.Arrays;

/**
 * A call that is not refused changes what the document tells of it, and nothing else: what digest() folds is worked out
 * by hand behind each call; what it does not fold (what may be undone, IMAGES, STATUS, THE TEXT's bytes) is seen by a
 * twin, when the call has been taken back by another one.
 */
public final class ChangesTest extends Twins {
    /** Places in the row that digest() folds. */
    private static final int NOTES = 0, PLAYED = 1, DOWN = 3, UNDOS = 4, BYTES = 5, HANDS = 6, FROM = 18, TO = 19, NOTE = 20;
    private static final int HAND = 5, HEARD = 6, OF_NOTE = 7;

    /** Twins' object that has something: three NOTES, three givings that may be undone, an IMAGE 1, 25 bytes. */
    private static final long[] ROW = {3, 3, 2, 8, 3, 25, 0, 9, 4, 4, 12, 3, 0, 9, 4, 0, 9, 4, 1, 9,
        10, 0, 4, 0, 1, 1, 2, 12, 2, 3, 0, 1, 3, -1, 30, 10, 1, 0, 1, 3, -1, 7, 9};
    private static final String TEXT = "piece 5;note 7 7 7 1 7 3;";
    private static final int ABOVE = ROW.length - 2, BELOW = ROW.length - 1;

    public static void main(String[] args) {
        asItWas();
        hands();
        noteTold();
        text();
        read();
        givenAndUndone();
        pedal();
        breath();
        heard();
        images();
        piece();
        end("ChangesTest");
    }

    private static long fold(long[] values) {
        long h = 877;
        for (long v : values) h = 31 * h + v;
        return h;
    }

    /** The row with other values: place, value, place, value .. */
    private static long[] but(long... places) {
        long[] row = ROW.clone();
        for (int i = 0; i + 1 < places.length; i += 2) row[(int) places[i]] = places[i + 1];
        return row;
    }

    private static int of(int note, int what) {
        return NOTE + OF_NOTE * note + what;
    }

    private static void rowIs(String behind, FourHands x, long[] row) {
        due("digest() behind " + behind, x.digest(), fold(row));
        for (int what = 0; what < 6; what++) due("count(" + what + ") behind " + behind, x.count(what), row[what]);
    }

    /** The call changes just these, and is taken back by the other one without a trace. */
    private static void changes(String name, long answer, Call call, long[] row, Call back) {
        FourHands x = make(SOME);
        due(name, call.on(x), answer);
        rowIs(name, x, row);
        back.on(x);
        changesOnly(NOBODY, name + " taken back", x, make(SOME));
    }

    private static void asItWas() {
        promise = 33;
        rowIs("nothing", make(SOME), ROW);
    }

    private static void hands() {
        promise = 3;
        int[][] were = {{0, 9, 4}, {4, 12, 3}, {0, 9, 4}, {0, 9, 4}};
        for (int h = 0; h < 4; h++) {
            int hand = h;
            int[] was = were[h];
            int at = HANDS + 3 * h;
            changes("hand(" + h + ", 5, 0, 1)", was[0], x -> x.hand(hand, 5, 0, 1), but(at, 5, at + 1, 0, at + 2, 1),
                    x -> x.hand(hand, was[0], was[1], was[2]));
        }
    }

    private static void noteTold() {
        promise = 4;
        FourHands x = make(SOME);
        due("note(47, 62, 2, 1, 9, -1)", x.note(47, 62, 2, 1, 9, -1), 3);
        long[] row = Arrays.copyOf(but(NOTES, 4, UNDOS, 0), ROW.length + OF_NOTE);
        long[] told = {47, 62, 2, 1, 9, -1, -1, 7, 9};
        System.arraycopy(told, 0, row, ROW.length - 2, told.length);
        rowIs("note", x, row);
        due("undo()", x.undo(), -3);
        due("status(1)", x.status(1), 1);
        goneOnAlike("note", x, 1);
    }

    /** Behind what can not be taken back IMAGE 1, THE TEXT and STATUS (but for NOES more) are as they were. */
    private static void goneOnAlike(String name, FourHands x, int noes) {
        FourHands twin = make(SOME);
        for (int i = 0; i < noes; i++) twin.from(0);
        due("from(1) behind " + name, x.from(1), 1);
        twin.from(1);
        changesOnly(NOBODY, name, x, twin);
    }

    private static void text() {
        promise = 5;
        changes("type(120)", 26, x -> x.type(120), but(BYTES, 26), x -> { typed(x, TEXT); return 0; });
        promise = 6;
        changes("clear()", 25, x -> x.clear(), but(BYTES, 0), x -> { typed(x, TEXT); return 0; });
    }

    private static void read() {
        promise = 7;
        FourHands x = make(SOME);
        due("read()", x.read(), 2);
        long[] row = {1, 1, 5, 0, 0, 25, 0, 9, 4, 0, 9, 4, 0, 9, 4, 0, 9, 4, 0, 0, 7, 7, 7, 1, 7, 3, -1, 7, 9};
        rowIs("read()", x, row);
        due("undo()", x.undo(), -3);
        goneOnAlike("read()", x, 1);
    }

    private static void givenAndUndone() {
        promise = 8;
        // NOTES 0 and 1 are CROSSED, whatever comes
        changes("give(2, -1)", 1, x -> x.give(2, -1), but(PLAYED, 2, UNDOS, 4, of(2, HAND), -1), x -> x.undo());
        changes("give(0, 0)", 1, x -> x.give(0, 0), but(UNDOS, 4, of(0, HAND), 0), x -> x.undo());
        changes("give(1, 3), the same", 1, x -> x.give(1, 3), but(UNDOS, 4), x -> x.undo());
        promise = 9;
        changes("undo()", 1, x -> x.undo(), but(PLAYED, 2, UNDOS, 2, of(2, HAND), -1), x -> x.give(2, 3));
        // what is told between a giving and its undoing stays told
        FourHands x = make(SOME);
        x.hand(0, 2, 8, 7);
        x.pedal(3, 4);
        x.heard(2, 6);
        x.breath(1, 0);
        x.type(32);
        x.image(0);
        x.undo();
        rowIs("undo() of what was given ahead of all that", x, but(PLAYED, 2, UNDOS, 2, of(2, HAND), -1, HANDS, 2, HANDS + 1, 8, HANDS + 2, 7,
                DOWN, 1, FROM, 3, TO, 4, of(2, HEARD), 6, ABOVE, 1, BELOW, 2, BYTES, 26));
        due("from(0)", x.from(0), 1);
    }

    private static void pedal() {
        promise = 17;
        changes("pedal(10, 30)", 1, x -> x.pedal(10, 30), but(DOWN, 20, FROM, 10, TO, 30), x -> x.pedal(1, 9));
        changes("pedal(0, 0)", 1, x -> x.pedal(0, 0), but(DOWN, 0, FROM, 0, TO, 0), x -> x.pedal(1, 9));
    }

    private static void breath() {
        promise = 24;
        changes("breath(3, 1)", 1, x -> x.breath(3, 1), but(ABOVE, 5, BELOW, 8), x -> x.breath(2, 1));
        changes("breath(0, 0)", 1, x -> x.breath(0, 0), but(ABOVE, 1, BELOW, 1), x -> x.breath(2, 1));
    }

    private static void heard() {
        promise = 25;
        changes("heard(0, -1)", 2, x -> x.heard(0, -1), but(of(0, HEARD), -1), x -> x.heard(0, 2));
        changes("heard(2, 9)", -1, x -> x.heard(2, 9), but(of(2, HEARD), 9), x -> x.heard(2, -1));
    }

    private static void images() {
        promise = 29;
        FourHands x = make(SOME);
        due("image(0)", x.image(0), 1);
        rowIs("image(0)", x, ROW);
        for (int w = 0; w < 3; w++) due("status(" + w + ")", x.status(w), w == 0 ? 1 : 0);
        goneOnAlikeWithBoth(x);
        promise = 30;
        x = make(SOME);
        due("from(1)", x.from(1), 1);
        long[] then = but(PLAYED, 2, UNDOS, 1, of(0, HAND), 0, of(2, HAND), -1);
        rowIs("from(1)", x, then);
        x.image(1);
        due("from(1)", x.from(1), 1);
        rowIs("from(1), kept again", x, then);
        due("undo()", x.undo(), 1);
        rowIs("undo()", x, but(PLAYED, 2, UNDOS, 0, of(0, HAND), 0, of(1, HAND), 2, of(2, HAND), -1));
    }

    /** The other IMAGE is what it was, and what may be undone, too. */
    private static void goneOnAlikeWithBoth(FourHands x) {
        FourHands twin = make(SOME);
        due("from(1) behind image(0)", x.from(1), twin.from(1));
        due("digest()", x.digest(), twin.digest());
        due("from(0) behind from(1)", x.from(0), 1);
        rowIs("from(0)", x, ROW);
        due("undo()", x.undo(), make(SOME).undo());
    }

    private static void piece() {
        promise = 2;
        FourHands x = make(SOME);
        due("piece(4)", x.piece(4), 3);
        FourHands twin = new FourHands();
        twin.piece(4);
        rowIs("piece(4)", x, new long[] {0, 0, 4, 0, 0, 0, 0, 9, 4, 0, 9, 4, 0, 9, 4, 0, 9, 4, 0, 0, 0, 1});
        changesOnly(NOBODY, "piece(4), all else as at first", x, twin);
    }
}
