import java.math.BigInteger;

/**
 * What the calls answer at the edges that the document names: nothing there yet, the first and the last value, full,
 * "0 at least", "1 at least", "cut", "63 at most", wrap-around. Answers worked out by hand.
 */
public final class EdgesTest extends Checks {
    public static void main(String[] args) {
        nothingYet();
        pieceForgetsAll();
        handsAtBounds();
        notesAtBounds();
        textAtBounds();
        numbersInTexts();
        numbersNotAsTold();
        bytesInTexts();
        wordsInTexts();
        endsTooEarly();
        readTakesThePlace();
        giving();
        undoing();
        ofAtBounds();
        kindsAtBounds();
        wantedAndAgain();
        stretches();
        elbowsAndCrossings();
        lates();
        clashesInOrder();
        givenEdges();
        outEdges();
        fingerEdges();
        pedalEdges();
        blurEdges();
        joinEdges();
        bestEdges();
        turnEdges();
        coverEdges();
        placeEdges();
        practiceEdges();
        breathEdges();
        lateEdges();
        eveningEdges();
        imageEdges();
        statusEdges();
        countEdges();
        digestWraps();
        end("EdgesTest");
    }

    private static FourHands read(String text, int items) {
        FourHands x = new FourHands();
        typed(x, text);
        due("read() of \"" + text + "\"", x.read(), items);
        return x;
    }

    private static void fault(String text, int place) {
        read(text, -10 - place);
    }

    private static FourHands alike(int many, int hand) {
        FourHands x = new FourHands();
        for (int i = 0; i < many; i++) x.note(5, 5, 1, 0, 1, hand);
        return x;
    }

    private static void counts(FourHands x, int... want) {
        for (int what = 0; what < 6; what++) due("count(" + what + ")", x.count(what), want[what]);
    }

    private static void handIs(FourHands x, int hand, int... want) {
        for (int what = 0; what < want.length; what++) due("about(" + hand + ", " + what + ")", x.about(hand, what), want[what]);
    }

    private static void noteIs(FourHands x, int note, int... want) {
        for (int what = 0; what < 6; what++) due("of(" + note + ", " + what + ")", x.of(note, what), want[what]);
    }

    /** The digest by numbers of any size, cut to a long only at the end. */
    private static long fold(long... values) {
        BigInteger h = BigInteger.valueOf(877);
        for (long v : values) h = h.multiply(BigInteger.valueOf(31)).add(BigInteger.valueOf(v));
        return h.longValue();
    }

    // ---- a piece

    private static void nothingYet() {
        promise = 1;
        FourHands x = new FourHands();
        due("digest()", x.digest(), fold(0, 0, 2, 0, 0, 0, 0, 9, 4, 0, 9, 4, 0, 9, 4, 0, 9, 4, 0, 0, 0, 1));
        due("read()", x.read(), -10);
        due("clear()", x.clear(), 0);
        for (int sort = -1; sort <= 5; sort++) {
            due("clashes(" + sort + ", -1)", x.clashes(sort, -1), 0);
            due("clashes(" + sort + ", 0)", x.clashes(sort, 0), -5);
        }
        for (int m = 0; m <= 2; m++) {
            due("given(" + m + ", -1)", x.given(m, -1), 0);
            due("given(" + m + ", 0)", x.given(m, 0), -5);
        }
        due("out()", x.out(), 0);
        for (int h = 0; h < 4; h++) {
            handIs(x, h, 0, 9, 4, 2, 0);
            due("fingers(" + h + ", -1)", x.fingers(h, -1), 0);
            due("fingers(" + h + ", 0)", x.fingers(h, 0), -5);
        }
        for (int w = 0; w < 2; w++) {
            due("blurs(" + w + ")", x.blurs(w), 0);
            due("best(" + w + ")", x.best(w), 0);
            due("part(" + w + ")", x.part(w), w);
        }
        due("covered()", x.covered(), 0);
        due("places()", x.places(), 0);
        due("late()", x.late(), 15);
        due("evening(999999, 100)", x.evening(999999, 100), 0);
        due("practice(6, -1)", x.practice(6, -1), 0);
        for (int i = 0; i < 6; i++) due("practice(6, " + i + ")", x.practice(6, i), 0);
        counts(x, 0, 0, 2, 0, 0, 0);
        for (int w = 0; w < 3; w++) due("status(" + w + ")", x.status(w), 0);
        due("of(0, 0)", x.of(0, 0), -10);
        due("give(0, 0)", x.give(0, 0), -2);
        due("heard(0, 0)", x.heard(0, 0), -10);
        due("clash(0, 1)", x.clash(0, 1), -2);
        due("undo()", x.undo(), -3);
        due("from(0)", x.from(0), -3);
        due("from(1)", x.from(1), -3);
        due("status(0)", x.status(0), 4);
        due("status(1)", x.status(1), 3);
        due("status(2)", x.status(2), 0);
    }

    private static void pieceForgetsAll() {
        promise = 2;
        for (int near = 0; near <= 9; near++) {
            FourHands x = alike(12, 3);
            for (int h = 0; h < 4; h++) x.hand(h, 5, 15, 9);
            for (int i = 0; i < 12; i++) x.heard(i, 9);
            for (int i = 0; i < 12; i++) x.give(i, 0);
            x.pedal(0, 64);
            x.breath(20, 19);
            x.image(0);
            x.image(1);
            typed(x, " ".repeat(150));
            x.type(32);
            x.note(5, 5, 1, 0, 1, 0);
            x.fingers(0, -1);
            x.count(6);
            due("piece(" + near + ") of 12", x.piece(near), 12);
            due("digest()", x.digest(), fold(0, 0, near, 0, 0, 0, 0, 9, 4, 0, 9, 4, 0, 9, 4, 0, 9, 4, 0, 0, 0, 1));
            for (int w = 0; w < 3; w++) due("status(" + w + ")", x.status(w), 0);
            due("undo()", x.undo(), -3);
            due("from(0)", x.from(0), -3);
            due("from(1)", x.from(1), -3);
            due("read()", x.read(), -10);
            due("clear()", x.clear(), 0);
            for (int i = 0; i < 12; i++) due("note", x.note(5, 5, 1, 0, 1, 0), i);
            for (int i = 0; i < 12; i++) due("heard(" + i + ", 0)", x.heard(i, 0), -1);
            due("note, a 13th", x.note(5, 5, 1, 0, 1, 0), -4);
        }
        due("piece(0) of none", new FourHands().piece(0), 0);
        due("piece(9) of one", alike(1, -1).piece(9), 1);
    }

    private static void handsAtBounds() {
        promise = 3;
        FourHands x = new FourHands();
        due("hand(0, 0, 0, 1)", x.hand(0, 0, 0, 1), 0);
        handIs(x, 0, 0, 0, 1, 2, 0);
        due("hand(3, 5, 15, 9)", x.hand(3, 5, 15, 9), 0);
        handIs(x, 3, 5, 13, 4, 4, 0);
        handIs(x, 1, 0, 9, 4, 2, 0);
        handIs(x, 2, 0, 9, 4, 2, 0);
        due("hand(0, 5, 15, 9)", x.hand(0, 5, 15, 9), 0);
        due("hand(3, 0, 0, 1)", x.hand(3, 0, 0, 1), 5);
        due("hand(0, 0, 9, 4)", x.hand(0, 0, 9, 4), 5);
        due("hand(3, 0, 0, 1)", x.hand(3, 0, 0, 1), 0);
        due("digest()", x.digest(), fold(0, 0, 2, 0, 0, 0, 0, 9, 4, 0, 9, 4, 0, 9, 4, 0, 0, 1, 0, 0, 0, 1));
    }

    private static void notesAtBounds() {
        promise = 4;
        FourHands x = new FourHands();
        int[][] notes = {{0, 0, 1, 0, 0, -1}, {47, 0, 8, 1, 9, 3}, {0, 63, 1, 0, 9, 0}, {47, 56, 8, 1, 0, 2}, {1, 57, 7, 0, 1, 1}, {46, 62, 2, 1, 8, -1}};
        for (int i = 0; i < notes.length; i++) {
            int[] a = notes[i];
            due("note", x.note(a[0], a[1], a[2], a[3], a[4], a[5]), i);
        }
        for (int i = 0; i < notes.length; i++) noteIs(x, i, notes[i]);
        // sums that wrap around are too long, not short
        due("note(0, 63, MAX, ..)", x.note(0, 63, MAX, 0, 0, 0), -2);
        due("note(0, MAX, 1, ..)", x.note(0, MAX, 1, 0, 0, 0), -2);
        due("note(0, MIN, 1, ..)", x.note(0, MIN, 1, 0, 0, 0), -2);
        for (int i = 6; i < 12; i++) due("note", x.note(i, i, 1, 0, 0, i % 4), i);
        due("note, a 13th", x.note(0, 0, 1, 0, 0, 0), -4);
        due("note, a 14th", x.note(0, 0, 1, 0, 0, 0), -4);
        counts(x, 12, 10, 2, 0, 0, 0);
        noteIs(x, 11, 11, 11, 1, 0, 0, 3);
        due("status(2)", x.status(2), 2);
        // leaving a NOTE out makes no room
        x.give(11, -1);
        due("note, a 13th", x.note(0, 0, 1, 0, 0, 0), -4);
    }

    private static void textAtBounds() {
        promise = 5;
        FourHands x = new FourHands();
        for (int i = 1; i <= 150; i++) due("type", x.type(i % 128), i);
        due("type, a 151st", x.type(0), -4);
        due("type, a 152nd", x.type(127), -4);
        counts(x, 0, 0, 2, 0, 0, 150);
        promise = 6;
        due("clear()", x.clear(), 150);
        due("clear()", x.clear(), 0);
        promise = 5;
        due("type behind clear()", x.type(127), 1);
        due("status(2)", x.status(2), 2);
        promise = 6;
        due("clear()", x.clear(), 1);
        promise = 7;
        String padded = "piece 1" + " ".repeat(142);
        read(padded + ";", 1);
        fault(padded + " ", 150);
        fault(padded + "2", 149);
        fault(padded + "!", 149);
        fault(" ".repeat(150), 150);
        fault(" ".repeat(149) + "p", 149);
        fault(" ".repeat(145) + "piece", 150);
        // what came behind the 150th byte is not there
        fault("piece 1;" + " ".repeat(142 - 16) + "note 0 0 1 0 0 0;", 150);
        due("of(0, 0)", read("piece 1;" + " ".repeat(142 - 17) + "note 7 0 1 0 0 0;", 2).of(0, 0), 7);
        // a longer TEXT that was there is gone
        x = new FourHands();
        typed(x, "piece 1;note 0 0 1 0 0 0;");
        typed(x, "piece 2;");
        due("read()", x.read(), 1);
        due("count(0)", x.count(0), 0);
    }

    private static void numbersInTexts() {
        promise = 7;
        for (int near = 0; near <= 9; near++) {
            due("count(2)", read("piece " + near + ";", 1).count(2), near);
            due("count(2)", read("piece 0" + near + ";", 1).count(2), near);
        }
        handIs(read("piece 2;hand 0 0 0 1;", 2), 0, 0, 0, 1, 2, 0);
        handIs(read("piece 2;hand 3 5 15 9;", 2), 3, 5, 13, 4, 4, 0);
        handIs(read("piece 2;hand 03 05 00 01;", 2), 3, 5, 0, 1, 4, 0);
        noteIs(read("piece 2;note 0 0 1 0 0 0;", 2), 0, 0, 0, 1, 0, 0, 0);
        noteIs(read("piece 2;note 47 56 8 1 9 3;", 2), 0, 47, 56, 8, 1, 9, 3);
        noteIs(read("piece 2;note 47 63 1 1 9 4;", 2), 0, 47, 63, 1, 1, 9, -1);
        noteIs(read("piece 2;note 00 00 08 01 09 04;", 2), 0, 0, 0, 8, 1, 9, -1);
        for (int length = 1; length <= 8; length++) {
            noteIs(read("piece 2;note 1 " + (64 - length) + " " + length + " 0 0 0;", 2), 0, 1, 64 - length, length, 0, 0, 0);
            if (length > 1) fault("piece 2;note 1 " + (65 - length) + " " + length + " 0 0 0;", 18);
        }
        // as many ITEMS as 150 bytes hold
        FourHands x = read("piece0;" + "note0 0 1 0 0 0;".repeat(8), 9);
        counts(x, 8, 8, 0, 0, 0, 135);
        read("piece0;" + "hand0 0 0 1;".repeat(11), 12);
    }

    private static void numbersNotAsTold() {
        promise = 7;
        int[][] high = {{9}, {3, 5, 15, 9}, {47, 63, 8, 1, 9, 4}};
        int[][] low = {{0}, {0, 0, 0, 1}, {0, 0, 1, 0, 0, 0}};
        String[] words = {"piece", "hand", "note"};
        for (int item = 0; item < 3; item++) {
            for (int k = 0; k < high[item].length; k++) {
                String[] wrongs = {"" + (high[item][k] + 1), "99", "000", "001", "100", "999", "0000", "4294967296", "x", "-1", ";", "piece", "note", "hand",
                    low[item][k] > 0 ? "0" : "!", low[item][k] > 0 ? "00" : "+1"};
                for (String w : wrongs) {
                    StringBuilder text = new StringBuilder(item == 0 ? "" : "piece 1;").append(words[item]);
                    for (int before = 0; before < k; before++) text.append(' ').append(low[item][before]);
                    int place = text.append(' ').length();
                    text.append(w);
                    fault(text.toString(), place);
                    for (int behind = k + 1; behind < high[item].length; behind++) text.append(' ').append(low[item][behind]);
                    fault(text.append(';').toString(), place);
                }
            }
        }
        // the first of two
        fault("piece 1;note 48 64 9 2 10 5;", 13);
        fault("piece 1;note 47 64 9 2 10 5;", 16);
        fault("piece 1;note 47 63 2 2 10 5;", 19);
        fault("piece 1;hand 3 6 16 0;piece", 15);
    }

    /** Each byte there is, in places where a word, a number, or ; may stand. */
    private static void bytesInTexts() {
        promise = 7;
        for (int c = 0; c < 128; c++) {
            boolean letter = c >= 'a' && c <= 'z';
            boolean figure = c >= '0' && c <= '9';
            String b = "" + (char) c;
            // ahead of all: only a blank begins nothing
            fault(b, c == ' ' ? 1 : 0);
            // behind the first ITEM
            read("piece 1;" + b, c == ' ' ? 1 : -18);
            // where ; is due
            read("piece 1" + b, c == ';' ? 1 : c == ' ' ? -18 : figure ? -16 : -17);
            // 0 and a figure are one number
            read("piece 0" + b, c == ';' ? 1 : c == ' ' || figure ? -18 : -17);
            // between the word and its number
            read("piece" + b + "1;", c == ' ' || c == '0' ? 1 : letter ? -10 : -15);
            // inside a word
            fault("pie" + b + "ce 1;", 0);
            fault("piece 1;note" + b, letter ? 8 : c == ' ' || figure ? 13 : 12);
        }
    }

    private static void wordsInTexts() {
        promise = 7;
        read("piece1;", 1);
        read("piece1;hand0 0 0 1;note0 0 1 0 0 0;", 3);
        read(" piece 1 ; hand 0  0 0 1 ; ", 2);
        for (String w : new String[] {"p", "piec", "pieces", "ppiece", "hand", "note", "x", "1", ";", "Piece", "PIECE"}) fault(w + " 1;", 0);
        for (String w : new String[] {"h", "han", "hands", "n", "not", "notes", "piece", "x", "1", ";", "Note", "handnote"}) fault("piece 1;" + w + " 1;", 8);
        // one letter is another, in each place
        for (String w : new String[] {"piece", "hand", "note"}) {
            for (int i = 0; i < w.length(); i++) {
                for (char c : new char[] {(char) (w.charAt(i) + 1), (char) (w.charAt(i) - 1), 'z'}) {
                    String ahead = w.equals("piece") ? "" : "piece 1;";
                    fault(ahead + w.substring(0, i) + c + w.substring(i + 1) + " 1;", ahead.length());
                }
            }
        }
        // piece again, wherever it comes
        fault("piece 1;piece 1;", 8);
        fault("piece 1;hand 0 0 0 1;piece 1;", 21);
        fault("piece piece", 6);
        // a number too many, one too few
        fault("piece 1 1;", 8);
        fault("piece 1;hand 0 0 0 1 1;", 21);
        fault("piece 1;note 0 0 1 0 0 0 0;", 25);
        fault("piece ;", 6);
        fault("piece 1;hand 0 0 0;", 18);
        fault("piece 1;note 0 0 1 0 0;", 22);
        fault("piece 1;;", 8);
    }

    private static void endsTooEarly() {
        promise = 7;
        String whole = "piece 1;hand 0 0 0 1;note 0 0 1 0 0 0;";
        boolean[] endsInWord = new boolean[whole.length() + 1];
        for (int i = 1; i < whole.length(); i++) endsInWord[i] = Character.isLetter(whole.charAt(i - 1)) && Character.isLetter(whole.charAt(i));
        for (int cut = 0; cut < whole.length(); cut++) {
            int items = cut == 8 ? 1 : cut == 21 ? 2 : 0;
            // a word that is cut off is none
            int place = cut;
            while (endsInWord[cut] && place > 0 && Character.isLetter(whole.charAt(place - 1))) place--;
            read(whole.substring(0, cut), items > 0 ? items : -10 - place);
        }
        read(whole, 3);
        fault("   ", 3);
        fault("piece 1 ", 8);
        fault("piece 1;note ", 13);
    }

    private static void readTakesThePlace() {
        promise = 7;
        FourHands x = alike(12, 3);
        for (int h = 0; h < 4; h++) x.hand(h, 5, 15, 9);
        for (int i = 0; i < 12; i++) x.heard(i, 9);
        for (int i = 0; i < 12; i++) x.give(i, 0);
        x.pedal(0, 64);
        x.breath(20, 19);
        x.image(0);
        x.count(6);
        x.note(5, 5, 1, 0, 1, 0);
        x.from(1);
        long kept = x.digest();
        typed(x, "piece 0;");
        due("read()", x.read(), 1);
        due("digest()", x.digest(), fold(0, 0, 0, 0, 0, 8, 0, 9, 4, 0, 9, 4, 0, 9, 4, 0, 9, 4, 0, 0, 439, 441));
        for (int w = 0; w < 3; w++) due("status(" + w + ")", x.status(w), 1);
        due("undo()", x.undo(), -3);
        due("note", x.note(5, 5, 1, 0, 1, 0), 0);
        due("heard(0, 0)", x.heard(0, 0), -1);
        due("from(1)", x.from(1), -3);
        due("from(0)", x.from(0), 1);
        x.clear();
        due("digest()", x.digest(), kept);
        // a second one that is read begins anew, too
        typed(x, "piece 0;note 1 1 1 0 0 0;");
        due("read()", x.read(), 2);
        due("read()", x.read(), 2);
        counts(x, 1, 1, 0, 0, 0, 25);
    }

    // ---- who plays what

    private static void giving() {
        promise = 8;
        FourHands x = alike(12, -1);
        due("clashes(-1, -1)", x.clashes(-1, -1), 0);
        for (int i = 0; i < 12; i++) due("give(" + i + ", " + i % 4 + ")", x.give(i, i % 4), i * (i + 1) / 2);
        due("give(11, -1)", x.give(11, -1), 55);
        due("give(0, -1)", x.give(0, -1), 45);
        due("give(0, -1), once more", x.give(0, -1), 45);
        due("count(1)", x.count(1), 10);
        due("of(11, 5)", x.of(11, 5), -1);
        due("give(12, 0)", x.give(12, 0), -2);
        // the one NOTE there is
        x = alike(1, 0);
        due("give(0, 3)", x.give(0, 3), 0);
        due("give(1, 3)", x.give(1, 3), -2);
        due("count(4)", x.count(4), 1);
    }

    private static void undoing() {
        promise = 9;
        for (int given = 0; given <= 12; given++) {
            FourHands x = alike(2, 0);
            for (int i = 0; i < given; i++) x.give(0, i % 2 - 1);
            int may = Math.min(given, 10);
            due("count(4) behind " + given, x.count(4), may);
            for (int back = 1; back <= may; back++) {
                int left = given - back;
                int hand = left == 0 ? 0 : (left - 1) % 2 - 1;
                due("undo()", x.undo(), hand == -1 ? 0 : 1);
                due("of(0, 5)", x.of(0, 5), hand);
                due("count(4)", x.count(4), may - back);
            }
            due("undo(), none may be", x.undo(), -3);
            due("status(1)", x.status(1), 1);
            // it can be filled again
            for (int i = 0; i < 11; i++) x.give(1, 3);
            due("count(4)", x.count(4), 10);
        }
        FourHands x = alike(2, 0);
        x.give(0, 1);
        x.give(1, 0);
        due("count(4), the same HAND is given, too", x.count(4), 2);
        x.note(0, 0, 1, 0, 0, -1);
        due("undo(), a NOTE told leaves none", x.undo(), -3);
        x.give(0, 2);
        x.note(0, 0, 1, 0, 0, 4);
        due("undo(), a NOTE refused leaves it", x.undo(), 1);
        due("of(0, 5)", x.of(0, 5), 1);
        x.give(0, 2);
        x.give(0, 9);
        due("undo(), one not given does not count", x.undo(), 1);
        due("of(0, 5)", x.of(0, 5), 1);
    }

    private static void ofAtBounds() {
        promise = 10;
        FourHands x = new FourHands();
        for (int i = 0; i < 12; i++) {
            due("of(" + i + ", 0)", x.of(i, 0), -10);
            x.note(i, 2 * i, 1 + i % 8, i % 2, i % 10, i % 5 - 1);
            noteIs(x, i, i, 2 * i, 1 + i % 8, i % 2, i % 10, i % 5 - 1);
        }
        due("of(12, 0)", x.of(12, 0), -10);
        noteIs(x, 0, 0, 0, 1, 0, 0, -1);
        promise = 11;
        int[] bits = {2 | 64 | 2048, 4 | 128, 8 | 256, 16 | 512};
        for (int h = 0; h < 4; h++) due("about(" + h + ", 4)", x.about(h, 4), bits[h]);
        due("about(2, 4) of all", alike(12, 2).about(2, 4), 4095);
    }

    private static void kindsAtBounds() {
        promise = 11;
        // "2 less (0 at least)"
        int[] reach = {0, 1, 2, 3, 15};
        int[] stiff = {0, 0, 0, 1, 13};
        // "half of it (cut; 1 at least)", "twice that"
        int[] speed = {1, 2, 3, 4, 9};
        int[] half = {1, 1, 1, 2, 4};
        // "1 more", "half (cut)", "twice that"
        int[] nears = {0, 1, 2, 8, 9};
        int[] light = {0, 0, 1, 4, 4};
        for (int i = 0; i < 5; i++) {
            int r = reach[i];
            int s = speed[i];
            int e = nears[i];
            int[][] want = {{r, s, e}, {r, 2 * s, e}, {r, s, e + 1}, {stiff[i], half[i], e}, {r, 2 * s, light[i]}, {stiff[i], half[i], 2 * e}};
            for (int kind = 0; kind < 6; kind++) {
                for (int h = 0; h < 4; h++) {
                    FourHands x = new FourHands();
                    x.piece(e);
                    x.hand(h, kind, r, s);
                    handIs(x, h, kind, want[kind][0], want[kind][1], want[kind][2], 0);
                }
            }
        }
    }

    private static void clashIs(int want, int near, int kind, int reach, int speed, int[] a, int[] b) {
        FourHands x = new FourHands();
        x.piece(near);
        for (int h = 0; h < 4; h++) x.hand(h, kind, reach, speed);
        for (int[] v : new int[][] {a, b}) x.note(v[0], v[1], v[2], v[3], v[4], v[5]);
        due("clash(0, 1)", x.clash(0, 1), want);
        due("clash(1, 0)", x.clash(1, 0), want);
        due("clashes(-1, -1)", x.clashes(-1, -1), want == -1 ? 0 : 1);
        x.piece(near);
        for (int h = 0; h < 4; h++) x.hand(h, kind, reach, speed);
        for (int[] v : new int[][] {b, a}) x.note(v[0], v[1], v[2], v[3], v[4], v[5]);
        due("clash(0, 1), told the other way", x.clash(0, 1), want);
    }

    private static void plain(int want, int[] a, int[] b) {
        clashIs(want, 2, 0, 9, 4, a, b);
    }

    private static void wantedAndAgain() {
        promise = 12;
        for (int h = 0; h < 4; h++) {
            for (int other = 0; other < 4; other++) {
                plain(0, n(0, 0, 1, h), n(0, 0, 8, other));
                plain(0, n(47, 63, 1, h), n(47, 63, 1, other));
                // it begins in the last MOMENT in which the other one sounds; then just behind that
                plain(1, n(0, 0, 8, h), n(0, 7, 1, other));
                plain(-1, n(0, 0, 8, h), n(0, 8, 1, other));
                plain(1, n(47, 56, 8, h), n(47, 63, 1, other));
                plain(1, n(9, 20, 2, h), n(9, 21, 8, other));
                plain(-1, n(9, 20, 1, h), n(9, 21, 8, other));
            }
            plain(-1, n(0, 0, 1, h), n(0, 0, 1, -1));
        }
        plain(-1, n(0, 0, 1, -1), n(0, 0, 1, -1));
        // one KEY is ahead of all else, though it is nearer than NEAR and further than 0
        clashIs(0, 9, 5, 0, 1, n(20, 5, 8, 0), n(20, 5, 8, 2));
        clashIs(1, 9, 5, 0, 1, n(20, 5, 8, 0), n(20, 6, 8, 2));
    }

    private static void stretches() {
        promise = 12;
        int[] reach = {0, 1, 2, 3, 15};
        int[] stiff = {0, 0, 0, 1, 13};
        for (int i = 0; i < 5; i++) {
            for (int kind = 0; kind < 6; kind++) {
                int far = kind == 3 || kind == 5 ? stiff[i] : reach[i];
                for (int h = 0; h < 4; h++) {
                    if (far > 0) clashIs(-1, 9, kind, reach[i], 4, n(20, 5, 2, h), n(20 + far, 6, 1, h));
                    clashIs(2, 9, kind, reach[i], 4, n(20, 5, 2, h), n(21 + far, 6, 1, h));
                }
                // two HANDS of one person may be as far from and as near to one another as they like
                clashIs(-1, 9, kind, reach[i], 4, n(0, 5, 2, 0), n(47, 6, 1, 1));
                clashIs(-1, 9, kind, reach[i], 4, n(20, 5, 2, 3), n(21, 6, 1, 2));
            }
        }
        // together in one MOMENT only, or in none
        clashIs(2, 2, 0, 9, 9, n(0, 5, 3, 0), n(10, 7, 1, 0));
        clashIs(5, 2, 0, 9, 9, n(0, 5, 3, 0), n(10, 8, 1, 0));
        clashIs(5, 2, 0, 9, 9, n(0, 5, 3, 0), n(10, 9, 1, 0));
        clashIs(-1, 2, 0, 9, 9, n(0, 5, 3, 0), n(10, 10, 1, 0));
    }

    private static void elbowsAndCrossings() {
        promise = 12;
        int[] nears = {0, 1, 2, 8, 9};
        int[] light = {0, 0, 1, 4, 4};
        for (int i = 0; i < 5; i++) {
            for (int kind = 0; kind < 6; kind++) {
                int near = kind == 2 ? nears[i] + 1 : kind == 4 ? light[i] : kind == 5 ? 2 * nears[i] : nears[i];
                for (int h = 0; h < 2; h++) {
                    for (int his = 2; his < 4; his++) {
                        int least = Math.max(near, 1);
                        clashIs(-1, nears[i], kind, 9, 4, n(20 + least, 5, 2, h), n(20, 6, 1, his));
                        clashIs(4, nears[i], kind, 9, 4, n(20, 5, 2, h), n(20 + least, 6, 1, his));
                        if (near < 2) continue;
                        clashIs(3, nears[i], kind, 9, 4, n(20 + near - 1, 5, 2, h), n(20, 6, 1, his));
                        clashIs(3, nears[i], kind, 9, 4, n(20, 5, 2, h), n(20 + near - 1, 6, 1, his));
                        clashIs(3, nears[i], kind, 9, 4, n(21, 5, 2, h), n(20, 6, 1, his));
                    }
                }
            }
        }
        // not in one MOMENT
        plain(-1, n(20, 5, 1, 0), n(21, 6, 1, 2));
        plain(-1, n(0, 5, 1, 0), n(47, 6, 1, 2));
        plain(4, n(0, 5, 2, 0), n(47, 6, 1, 2));
        // NEAR of one of the two is enough, his or hers
        for (int ringed = 0; ringed < 4; ringed++) {
            FourHands x = of(n(22, 5, 1, 1), n(20, 5, 1, 3));
            x.hand(ringed, 2, 9, 4);
            due("clash(0, 1), RINGED is " + ringed, x.clash(0, 1), ringed == 1 || ringed == 3 ? 3 : -1);
            x.hand(ringed, 4, 9, 4);
            due("clash(0, 1), LIGHT is " + ringed, x.clash(0, 1), -1);
            x = of(n(21, 5, 1, 1), n(20, 5, 1, 3));
            x.hand(ringed, 4, 9, 4);
            due("clash(0, 1), only " + ringed + " is LIGHT", x.clash(0, 1), 3);
        }
    }

    private static void lates() {
        promise = 12;
        int[] speed = {1, 2, 3, 4, 9};
        int[] half = {1, 1, 1, 2, 4};
        for (int i = 0; i < 5; i++) {
            for (int kind = 0; kind < 6; kind++) {
                int moves = kind == 1 || kind == 4 ? 2 * speed[i] : kind == 3 || kind == 5 ? half[i] : speed[i];
                for (int between = 0; between <= 2; between++) {
                    int far = moves * between;
                    clashIs(-1, 2, kind, 9, speed[i], n(5, 5, 3, 1), n(5 + far, 8 + between, 1, 1));
                    clashIs(5, 2, kind, 9, speed[i], n(5, 5, 3, 1), n(6 + far, 8 + between, 1, 1));
                    clashIs(5, 2, kind, 9, speed[i], n(6 + far, 5, 3, 1), n(5, 8 + between, 1, 1));
                    clashIs(-1, 2, kind, 9, speed[i], n(5, 5, 3, 1), n(6 + far, 8 + between, 1, 0));
                    clashIs(-1, 2, kind, 9, speed[i], n(5, 5, 3, 1), n(6 + far, 8 + between, 1, -1));
                }
            }
        }
        // from the first MOMENT to the last
        clashIs(-1, 2, 0, 0, 1, n(0, 0, 1, 3), n(47, 63, 1, 3));
        clashIs(-1, 2, 0, 0, 1, n(0, 0, 1, 3), n(47, 48, 1, 3));
        clashIs(5, 2, 0, 0, 1, n(0, 0, 1, 3), n(47, 47, 1, 3));
    }

    private static void clashesInOrder() {
        promise = 13;
        FourHands x = alike(12, 0);
        due("clashes(-1, -1)", x.clashes(-1, -1), 66);
        due("clashes(0, -1)", x.clashes(0, -1), 66);
        int i = 0;
        for (int a = 0; a < 12; a++) {
            for (int b = a + 1; b < 12; b++) {
                due("clashes(-1, " + i + ")", x.clashes(-1, i), 100 * a + b);
                due("clashes(0, " + i + ")", x.clashes(0, i), 100 * a + b);
                i++;
            }
        }
        due("clashes(-1, 66)", x.clashes(-1, 66), -5);
        due("clashes(0, 66)", x.clashes(0, 66), -5);
        for (int sort = 1; sort <= 5; sort++) {
            due("clashes(" + sort + ", -1)", x.clashes(sort, -1), 0);
            due("clashes(" + sort + ", 0)", x.clashes(sort, 0), -5);
        }
        // one of each sort, each pair in MOMENTS of its own, by HANDS that have time
        x = of(n(10, 0, 1, 0), n(10, 0, 1, 2), n(10, 10, 2, 0), n(10, 11, 2, 2), n(10, 20, 1, 1), n(20, 20, 1, 1),
                n(11, 30, 1, 0), n(10, 30, 1, 2), n(10, 40, 1, 0), n(12, 40, 1, 2), n(10, 50, 1, 1), n(11, 51, 1, 1));
        due("clashes(-1, -1)", x.clashes(-1, -1), 6);
        for (int sort = 0; sort <= 5; sort++) {
            int pair = 100 * 2 * sort + 2 * sort + 1;
            due("clashes(-1, " + sort + ")", x.clashes(-1, sort), pair);
            due("clashes(" + sort + ", -1)", x.clashes(sort, -1), 1);
            due("clashes(" + sort + ", 0)", x.clashes(sort, 0), pair);
            due("clashes(" + sort + ", 1)", x.clashes(sort, 1), -5);
        }
        due("clashes(-1, 6)", x.clashes(-1, 6), -5);
    }

    // ---- edits

    private static void givenIs(FourHands x, int m, int clashes, int... row) {
        due("given(" + m + ", -1)", x.given(m, -1), clashes);
        for (int i = 0; i < row.length; i++) due("given(" + m + ", " + i + ")", x.given(m, i), row[i]);
        due("given(" + m + ", " + row.length + ")", x.given(m, row.length), -5);
    }

    private static void givenEdges() {
        promise = 14;
        // one KEY, one MOMENT: no HAND helps, however many there are
        for (int many = 0; many <= 12; many++) for (int m = 0; m <= 2; m++) givenIs(alike(many, 0), m, many * (many - 1) / 2);
        // all are left out, or all but one
        for (int m = 0; m <= 2; m++) givenIs(alike(12, -1), m, 0);
        // the first of all rows, and the last of all NOTES and HANDS
        givenIs(of(n(0, 5, 1, 1), n(20, 5, 1, 1)), 1, 0, 0);
        FourHands x = of(n(0, 0, 1, -1), n(0, 0, 1, -1), n(0, 0, 1, -1), n(0, 0, 1, -1), n(0, 0, 1, -1), n(0, 0, 1, -1), n(0, 0, 1, -1),
                n(15, 0, 1, 2), n(47, 0, 1, 1), n(30, 0, 1, 0), n(39, 0, 1, 0), n(0, 0, 1, 0));
        givenIs(x, 0, 3);
        givenIs(x, 1, 0, 113);
        givenIs(x, 2, 0, 113);
        // three that clash with one another: two must go; two HANDS of hers are not enough for them and his are crossed or not
        x = of(n(0, 0, 1, 2), n(20, 0, 1, 2), n(40, 0, 1, 2));
        givenIs(x, 0, 3);
        givenIs(x, 1, 1, 3);
        givenIs(x, 2, 0, 3, 20);
        // the same with one ahead that is left out: NOTES keep their numbers
        givenIs(of(n(0, 0, 1, -1), n(0, 0, 1, 2), n(20, 0, 1, 2), n(40, 0, 1, 2)), 2, 0, 13, 30);
        // two one behind the other are given; less may be asked for later
        x = of(n(0, 0, 1, -1), n(0, 0, 1, 0), n(0, 30, 1, 0), n(20, 0, 1, 0), n(20, 30, 1, 0));
        givenIs(x, 2, 0, 11, 21);
        givenIs(x, 1, 1, 11);
        givenIs(x, 0, 2);
        // left out is no HAND to give to, and who is left out does not come back
        x = of(n(5, 5, 1, 0), n(5, 5, 1, 1), n(40, 5, 1, -1));
        givenIs(x, 2, 1);
    }

    private static void outEdges() {
        promise = 15;
        for (int many = 0; many <= 12; many++) {
            due("out() of " + many, alike(many, 3).out(), many == 0 ? 0 : (1 << many - 1) - 1);
            due("out() of " + many + " left out", alike(many, -1).out(), 0);
        }
        // the last of 12 clashes with all the others, which are far enough from one another
        FourHands x = new FourHands();
        for (int i = 0; i < 11; i++) x.note(5, i % 2 == 0 ? 8 + i / 2 : 14 + i / 2, 1, 0, 0, i % 4);
        due("out()", x.out(), 0);
        x.note(6, 8, 8, 0, 0, 3);
        due("out()", x.clashes(-1, -1) > 1 ? x.out() : -1, 2048);
        // it is asked again, when fewer clash
        x = alike(3, 0);
        due("out()", x.out(), 3);
        x.give(0, -1);
        due("out()", x.out(), 2);
        x.give(1, -1);
        due("out()", x.out(), 0);
        // two pairs: of like ones the least
        due("out()", of(n(1, 1, 1, 0), n(9, 9, 1, 0), n(9, 9, 1, 1), n(1, 1, 1, 1)).out(), 3);
        // a row of three: the middle one
        due("out()", of(n(1, 1, 1, 0), n(1, 1, 3, 1), n(1, 3, 1, 2)).out(), 2);
    }

    private static void fingersAre(FourHands x, int hand, int cost, int... fingers) {
        due("fingers(" + hand + ", -1)", x.fingers(hand, -1), cost);
        for (int i = 0; i < fingers.length; i++) due("fingers(" + hand + ", " + i + ")", x.fingers(hand, i), fingers[i]);
        due("fingers(" + hand + ", " + fingers.length + ")", x.fingers(hand, fingers.length), -5);
    }

    private static void fingerEdges() {
        promise = 16;
        for (int h = 0; h < 4; h++) {
            // one KEY again and again: one finger, for nothing
            for (int many = 0; many <= 8; many++) fingersAre(alike(many, h), h, 0, new int[many]);
            due("fingers of 9", alike(9, h).fingers(h, -1), -20);
            due("fingers of 12", alike(12, h).fingers(h, 0), -20);
            due("fingers of 9, another HAND", alike(9, h).fingers((h + 1) % 4, -1), 0);
        }
        FourHands x = alike(9, 0);
        x.give(3, -1);
        fingersAre(x, 0, 0, 0, 0, 0, 0, 0, 0, 0, 0);
        // 47 apart, upwards and downwards: 4 of them by fingers
        fingersAre(of(n(0, 0, 1, 0), n(47, 1, 1, 0)), 0, 43, 0, 4);
        fingersAre(of(n(47, 0, 1, 0), n(0, 1, 1, 0)), 0, 43, 4, 0);
        // 4 apart are five fingers, 5 apart one too few
        fingersAre(of(n(10, 0, 1, 0), n(14, 1, 1, 0)), 0, 0, 0, 4);
        fingersAre(of(n(10, 0, 1, 0), n(15, 1, 1, 0)), 0, 1, 0, 4);
        // by MOMENT, then KEY, then number, though told the other way
        fingersAre(of(n(14, 9, 1, 2), n(12, 9, 1, 2), n(10, 9, 1, 2), n(11, 3, 1, 2)), 2, 0, 1, 0, 2, 4);
        // the same KEY by another finger costs what the fingers are apart; unlike ones by one finger 3 more
        fingersAre(of(n(10, 0, 1, 1), n(10, 1, 1, 1), n(14, 2, 1, 1), n(14, 3, 1, 1), n(10, 4, 1, 1)), 1, 0, 0, 0, 4, 4, 0);
        // one finger for both would cost 1 and 3, and 0 for the next
        fingersAre(of(n(10, 0, 1, 0), n(11, 1, 1, 0), n(15, 2, 1, 0)), 0, 1, 0, 1, 4);
        // HANDS with more NOTES and with fewer, one asked behind the other
        int[] down = {47, 40, 33, 26, 19, 12, 5, 0};
        x = new FourHands();
        for (int i = 0; i < 8; i++) x.note(down[i], 2 * i, 1, 0, 0, 0);
        x.note(7, 0, 1, 0, 0, 1);
        for (int i = 0; i < 2; i++) x.note(9, i, 1, 0, 0, 2);
        for (int i = 0; i < 2; i++) {
            fingersAre(x, 0, 43, 4, 0, 1, 0, 1, 0, 1, 0);
            fingersAre(x, 1, 0, 0);
            fingersAre(x, 0, 43, 4, 0, 1, 0, 1, 0, 1, 0);
            fingersAre(x, 2, 0, 0, 0);
            fingersAre(x, 0, 43, 4, 0, 1, 0, 1, 0, 1, 0);
            fingersAre(x, 3, 0);
        }
        // 0, 1, .. 7 upwards by 8 NOTES: once from finger 2 back to 0
        x = new FourHands();
        for (int i = 0; i < 8; i++) x.note(i, i, 1, 0, 0, 0);
        fingersAre(x, 0, 3, 0, 1, 2, 0, 1, 2, 3, 4);
    }

    // ---- pedal, pages

    private static void pedalEdges() {
        promise = 17;
        int[][] good = {{0, 0}, {0, 1}, {0, 64}, {63, 64}, {64, 64}, {5, 5}};
        for (int[] g : good) {
            FourHands x = new FourHands();
            due("pedal(" + g[0] + ", " + g[1] + ")", x.pedal(g[0], g[1]), 1);
            due("count(3)", x.count(3), g[1] - g[0]);
            int down = g[1] - g[0];
            due("digest()", x.digest(), fold(0, 0, 2, down, 0, 0, 0, 9, 4, 0, 9, 4, 0, 9, 4, 0, 9, 4, g[0], g[1], 0, 1));
        }
        FourHands x = new FourHands();
        x.pedal(0, 64);
        due("pedal(3, 5)", x.pedal(3, 5), 1);
        due("count(3), the later one holds", x.count(3), 2);
    }

    private static void pedalled(FourHands x, int from, int to, int blurs, int joins) {
        x.pedal(from, to);
        due("blurs(0), " + from + " .. " + to, x.blurs(0), blurs);
        due("blurs(1), " + from + " .. " + to, x.blurs(1), joins);
    }

    private static void blurEdges() {
        promise = 18;
        // KEYS 0 and 3 apart do not blur, 1 and 2 do
        int[] blurs = {0, 1, 1, 0, 0};
        for (int apart = 0; apart < 5; apart++) {
            FourHands x = of(n(20, 5, 1, 0), n(20 + apart, 5, 1, 1));
            pedalled(x, 5, 6, blurs[apart], 0);
            pedalled(of(n(20 + apart, 5, 1, 0), n(20, 5, 1, 1)), 0, 64, 59 * blurs[apart], 0);
        }
        // 4 and 9: in each MOMENT from the later on; not if the earlier began while it was up, or the later too late
        FourHands x = of(n(20, 4, 1, 0), n(21, 9, 1, 0));
        pedalled(x, 4, 9, 0, 0);
        pedalled(x, 4, 10, 1, 0);
        pedalled(x, 4, 11, 2, 0);
        pedalled(x, 0, 64, 55, 0);
        pedalled(x, 5, 64, 0, 0);
        pedalled(x, 3, 64, 55, 0);
        pedalled(x, 9, 9, 0, 0);
        pedalled(x, 64, 64, 0, 0);
        // the first MOMENT and the last
        pedalled(of(n(20, 0, 1, 0), n(21, 0, 1, 0)), 0, 1, 1, 0);
        pedalled(of(n(20, 0, 1, 0), n(21, 63, 1, 0)), 0, 64, 1, 0);
        pedalled(of(n(20, 0, 1, 0), n(21, 63, 1, 0)), 0, 63, 0, 0);
        pedalled(of(n(20, 0, 1, 0), n(21, 63, 1, 0)), 1, 64, 0, 0);
        // who is left out does not blur; one pair that is alike in all does not, either
        pedalled(of(n(20, 0, 1, -1), n(21, 0, 1, 0)), 0, 64, 0, 0);
        pedalled(of(n(20, 0, 1, 0), n(21, 0, 1, -1)), 0, 64, 0, 0);
        // 12 that all blur: KEYS 5 and 6 by six each, from the first MOMENT on
        x = new FourHands();
        for (int i = 0; i < 12; i++) x.note(5 + i % 2, 0, 8, 0, 0, i % 4);
        pedalled(x, 0, 64, 36 * 64, 0);
    }

    private static void joinEdges() {
        promise = 18;
        // it sounds last in 5, another one begins in 6
        FourHands x = of(n(20, 4, 2, 0), n(40, 6, 1, 1));
        pedalled(x, 5, 7, 0, 1);
        pedalled(x, 6, 7, 0, 0);
        pedalled(x, 5, 6, 0, 0);
        pedalled(x, 0, 64, 0, 1);
        pedalled(x, 4, 7, 0, 1);
        // one MOMENT between, or none
        pedalled(of(n(20, 4, 2, 0), n(40, 7, 1, 1)), 0, 64, 0, 0);
        pedalled(of(n(20, 4, 2, 0), n(40, 5, 1, 1)), 0, 64, 0, 0);
        // each NOTE that ends counts once, however many begin
        pedalled(of(n(20, 4, 2, 0), n(30, 5, 1, 0), n(40, 6, 1, 1), n(10, 6, 1, 1)), 0, 64, 0, 2);
        // left out on either side
        pedalled(of(n(20, 4, 2, -1), n(40, 6, 1, 1)), 0, 64, 0, 0);
        pedalled(of(n(20, 4, 2, 0), n(40, 6, 1, -1)), 0, 64, 0, 0);
        // the first MOMENTS and the last; behind 63 there is none
        pedalled(of(n(20, 0, 1, 0), n(40, 1, 1, 1)), 0, 2, 0, 1);
        pedalled(of(n(20, 62, 1, 0), n(40, 63, 1, 1)), 62, 64, 0, 1);
        pedalled(of(n(20, 63, 1, 0), n(40, 0, 1, 1)), 0, 64, 0, 0);
        pedalled(of(n(20, 55, 8, 0), n(40, 63, 1, 1)), 0, 64, 0, 1);
    }

    private static void bestIs(FourHands x, int much, int fromTo) {
        due("best(0)", x.best(0), much);
        due("best(1)", x.best(1), fromTo);
    }

    private static void bestEdges() {
        promise = 19;
        bestIs(alike(12, 0), 0, 0);
        bestIs(of(n(20, 0, 1, 0), n(40, 1, 1, 1)), 1, 2);
        bestIs(of(n(20, 62, 1, 0), n(40, 63, 1, 1)), 1, 6264);
        bestIs(of(n(20, 0, 1, 0), n(40, 1, 1, -1)), 0, 0);
        // 16 long, not 17; of like ones the shortest, then the first
        bestIs(of(n(1, 0, 1, 0), n(11, 1, 1, 0), n(21, 14, 1, 0), n(31, 15, 1, 0)), 2, 16);
        bestIs(of(n(1, 0, 1, 0), n(11, 1, 1, 0), n(21, 15, 1, 0), n(31, 16, 1, 0)), 1, 2);
        bestIs(of(n(1, 48, 1, 0), n(11, 49, 1, 0), n(21, 62, 1, 0), n(31, 63, 1, 0)), 2, 4864);
        bestIs(of(n(1, 47, 1, 0), n(11, 48, 1, 0), n(21, 62, 1, 0), n(31, 63, 1, 0)), 1, 4749);
        bestIs(of(n(1, 50, 1, 0), n(11, 51, 1, 0), n(21, 9, 1, 0), n(31, 10, 1, 0)), 1, 911);
        // joined and blurred alike: none
        bestIs(of(n(20, 5, 1, 0), n(22, 6, 1, 0)), 0, 0);
        bestIs(of(n(20, 5, 1, 0), n(23, 6, 1, 0)), 1, 507);
        // it is asked again, when there is none any more
        FourHands x = of(n(20, 5, 1, 0), n(23, 6, 1, 0));
        bestIs(x, 1, 507);
        x.give(1, -1);
        bestIs(x, 0, 0);
        // two joined, one blurred: 2 less 1 is as 1 by less
        bestIs(of(n(20, 5, 1, 0), n(30, 6, 1, 0), n(31, 7, 1, 0)), 1, 507);
    }

    private static void turnEdges() {
        promise = 20;
        // all HANDS are taken in 20 .. 27
        FourHands x = new FourHands();
        for (int h = 0; h < 4; h++) x.note(10 * h, 20, 8, 0, 0, h);
        due("turns(19, 0, -1)", x.turns(19, 0, -1), 190);
        due("turns(20, 0, -1)", x.turns(20, 0, -1), -1);
        due("turns(27, 0, -1)", x.turns(27, 0, -1), -1);
        due("turns(28, 0, -1)", x.turns(28, 0, -1), 280);
        due("turns(20, 1, 1)", x.turns(20, 1, 1), 192);
        due("turns(27, 1, 1)", x.turns(27, 1, 1), 282);
        due("turns(23, 3, -1)", x.turns(23, 3, -1), -1);
        due("turns(23, 4, -1)", x.turns(23, 4, -1), 190);
        due("turns(24, 4, -1)", x.turns(24, 4, -1), 280);
        // as far on both sides: earlier ahead of later
        for (int h = 0; h < 4; h++) x.note(10 * h, 28, 1, 0, 0, h);
        due("turns(24, 4, -1)", x.turns(24, 4, -1), -1);
        due("turns(24, 5, -1)", x.turns(24, 5, -1), 190);
        // the nearest one is ahead of lesser HANDS, lesser HANDS ahead within a MOMENT
        x.give(7, -1);
        due("turns(25, 9, -1)", x.turns(25, 9, -1), 283);
        due("turns(25, 9, 0)", x.turns(25, 9, 0), 290);
        due("turns(25, 9, 1)", x.turns(25, 9, 1), 283);
        x.give(4, -1);
        due("turns(25, 9, -1)", x.turns(25, 9, -1), 280);
        // the ends: nothing is ahead of 0 or behind 63
        x = new FourHands();
        for (int h = 0; h < 4; h++) {
            x.note(10 * h, 0, 8, 0, 0, h);
            x.note(10 * h, 56, 8, 0, 0, h);
        }
        due("turns(0, 7, -1)", x.turns(0, 7, -1), -1);
        due("turns(0, 8, -1)", x.turns(0, 8, -1), 80);
        due("turns(63, 7, -1)", x.turns(63, 7, -1), -1);
        due("turns(63, 8, -1)", x.turns(63, 8, -1), 550);
        due("turns(63, 9, 1)", x.turns(63, 9, 1), 552);
        // all MOMENTS 9 away and nearer are taken, or all but the 9th
        x = new FourHands();
        for (int i = 0; i < 3; i++) for (int h = 2; h < 4; h++) x.note(10 * h, 8 * i, 8, 0, 0, h);
        due("turns(14, 9, 1)", x.turns(14, 9, 1), -1);
        due("turns(15, 9, 1)", x.turns(15, 9, 1), 242);
        due("turns(15, 8, 1)", x.turns(15, 8, 1), -1);
        due("turns(14, 9, -1)", x.turns(14, 9, -1), 140);
        due("status(0)", x.status(0), 0);
    }

    private static int[] v(int moment, int length, int part, int loud, int hand) {
        return new int[] {20, moment, length, part, loud, hand};
    }

    private static void coverEdges() {
        promise = 21;
        // as loud does not cover, 1 louder does
        due("covered()", of(v(5, 1, 0, 9, 0), v(5, 1, 1, 9, 0)).covered(), 0);
        due("covered()", of(v(5, 1, 0, 8, 0), v(5, 1, 1, 9, 0)).covered(), 32);
        due("covered()", of(v(5, 1, 0, 0, 0), v(5, 1, 1, 0, 0)).covered(), 0);
        due("covered()", of(v(5, 1, 0, 0, 0), v(5, 1, 1, 1, 0)).covered(), 32);
        // together
        due("covered()", of(v(5, 1, 0, 9, 0), v(5, 1, 1, 5, 0), v(5, 1, 1, 4, 0)).covered(), 0);
        due("covered()", of(v(5, 1, 0, 9, 0), v(5, 1, 1, 5, 0), v(5, 1, 1, 5, 0)).covered(), 32);
        due("covered()", of(v(5, 1, 0, 5, 0), v(5, 1, 0, 5, 0), v(5, 1, 1, 9, 0)).covered(), 0);
        // no tune, nothing else
        due("covered()", of(v(5, 1, 1, 9, 0)).covered(), 0);
        due("covered()", of(v(5, 1, 0, 9, 0)).covered(), 0);
        due("covered()", of(v(5, 1, 0, 0, -1), v(5, 1, 1, 9, 0)).covered(), 0);
        due("covered()", of(v(5, 1, 0, 0, 0), v(5, 1, 1, 9, -1)).covered(), 0);
        // from its own MOMENT on, LONG of them
        due("covered()", of(v(8, 8, 0, 0, 0), v(4, 8, 1, 1, 0)).covered(), 15 << 8);
        due("covered()", of(v(8, 8, 0, 0, 0), v(15, 8, 1, 1, 0)).covered(), 1 << 15);
        due("covered()", of(v(8, 8, 0, 0, 0), v(16, 8, 1, 1, 0)).covered(), 0);
        due("covered()", of(v(8, 8, 0, 0, 0), v(1, 7, 1, 1, 0)).covered(), 0);
        // bits 0, 31, 32 and 63
        due("covered()", of(v(0, 1, 0, 0, 0), v(0, 1, 1, 1, 0)).covered(), 1);
        due("covered()", of(v(31, 2, 0, 0, 0), v(31, 2, 1, 1, 0)).covered(), 3L << 31);
        due("covered()", of(v(63, 1, 0, 0, 0), v(63, 1, 1, 1, 0)).covered(), Long.MIN_VALUE);
        // all of 12: 11 times 9 and a tune
        FourHands x = new FourHands();
        for (int i = 0; i < 12; i++) x.note(i, 56, 8, i == 0 ? 0 : 1, 9, i % 4);
        due("covered()", x.covered(), 255L << 56);
    }

    private static void placeEdges() {
        promise = 22;
        due("places() of none that plays", alike(12, -1).places(), 0);
        due("places(), all the same", alike(12, 1).places(), 0);
        // hers above his: all pairs would be crossed; and the other way
        FourHands x = new FourHands();
        FourHands y = new FourHands();
        for (int i = 0; i < 12; i++) x.note(i < 6 ? i : 20 + i, 5, 1, 0, 0, i < 6 ? 2 + i % 2 : i % 2);
        for (int i = 0; i < 12; i++) y.note(i < 6 ? i : 20 + i, 5, 1, 0, 0, i < 6 ? i % 2 : 2 + i % 2);
        due("clashes(-1, -1)", x.clashes(-1, -1), 0);
        due("places()", x.places(), -36);
        due("clashes(-1, -1)", y.clashes(-1, -1), 36);
        due("places()", y.places(), 36);
        // 2 takes what 0 does and 3 what 1 does, each way
        for (int h = 0; h < 4; h++) {
            x = of(n(10, 0, 1, h), n(22, 0, 1, h));
            for (int far = 0; far < 4; far++) {
                x.piece(2);
                x.note(10, 0, 1, 0, 0, h);
                x.note(22, 0, 1, 0, 0, h);
                x.hand(far, 0, 12, 4);
                due("places()", x.places(), far == (h + 2) % 4 ? 1 : far == h ? -1 : 0);
            }
        }
    }

    // ---- practice, slips

    private static void practiceIs(FourHands x, int n, int slips, int... bars) {
        due("practice(" + n + ", -1)", x.practice(n, -1), slips);
        for (int i = 0; i < bars.length; i++) due("practice(" + n + ", " + i + ")", x.practice(n, i), bars[i]);
        due("practice(" + n + ", " + bars.length + ")", x.practice(n, bars.length), -5);
    }

    private static void practiceEdges() {
        promise = 23;
        // BARS of 8: the last MOMENT of one and the first of the next; 1 becomes 0 by one hour there
        for (int bar = 0; bar < 8; bar++) {
            practiceIs(of(n(5, 8 * bar, 1, 0)), 1, 0, bar);
            practiceIs(of(n(5, 8 * bar + 7, 1, 0)), 1, 0, bar);
            practiceIs(of(n(5, 8 * bar, 1, 0)), 0, 1);
        }
        practiceIs(of(n(5, 8, 1, -1)), 6, 0, 0, 0, 0, 0, 0, 0);
        // 276 of one BAR: 207, 155, 116, 87, 65, 48 (cut)
        int[] left = {276, 207, 155, 116, 87, 65, 48};
        FourHands x = alike(12, 0);
        for (int n = 0; n <= 6; n++) practiceIs(x, n, left[n], new int[n]);
        // 1, 2, 3, 4, 5 of a BAR: 0, 1, 2, 3, 3
        int[] then = {0, 0, 1, 2, 3, 3};
        for (int many = 1; many <= 5; many++) {
            x = new FourHands();
            for (int i = 0; i < many; i++) x.note(5, 56 + i, 1, 0, 0, 0);
            practiceIs(x, 1, then[many], 7);
        }
        // a CLASH counts where its later NOTE begins, whichever came first
        practiceIs(of(n(5, 7, 2, 0), n(5, 8, 1, 0)), 1, 1 + 3, 1);
        practiceIs(of(n(5, 8, 1, 0), n(5, 7, 2, 0)), 1, 1 + 3, 1);
        // one in each BAR: any hour wins 1; the first row
        x = new FourHands();
        for (int bar = 0; bar < 8; bar++) x.note(5, 8 * bar, 1, 0, 0, 0);
        practiceIs(x, 6, 2, 0, 1, 2, 3, 4, 5);
        // hours that win nothing stand in BAR 0
        practiceIs(of(n(5, 63, 1, 0)), 6, 0, 0, 0, 0, 0, 0, 7);
    }

    private static void breathIs(FourHands x, int n, int s, int above, int below) {
        due("breath(" + n + ", " + s + ")", x.breath(n, s), 1);
        due("part(0)", x.part(0), above);
        due("part(1)", x.part(1), below);
    }

    private static void breathEdges() {
        promise = 24;
        FourHands x = new FourHands();
        breathIs(x, 0, 0, 1, 1);
        breathIs(x, 0, 20, 1, 1);
        breathIs(x, 20, 20, 1, 1);
        breathIs(x, 20, 0, 1, 21);
        breathIs(x, 20, 19, 439, 441);
        breathIs(x, 20, 1, 61, 441);
        for (int n = 1; n <= 20; n++) {
            breathIs(x, n, 0, 1, n + 1);
            breathIs(x, n, n, 1, 1);
            // all but the two ways that are furthest from one another
            int all = (n + 1) * (n + 1);
            int halves = all % 2 == 0 ? 2 : 1;
            breathIs(x, n, n - 1, (all - 2) / halves, all / halves);
        }
    }

    private static void lateEdges() {
        promise = 25;
        FourHands x = of(n(10, 5, 1, 0), n(20, 7, 1, 0));
        for (int late = -1; late <= 9; late++) due("heard(0, " + late + ")", x.heard(0, late), late == -1 ? -1 : late - 1);
        due("heard(0, 9)", x.heard(0, 9), 9);
        due("heard(1, -1)", x.heard(1, -1), -1);
        promise = 26;
        // by 0 to 9, from the first MOMENT on, or from the last
        for (int late = 0; late <= 9; late++) {
            for (int h = 0; h < 4; h++) {
                x = of(n(10, 0, 1, h), n(20, 63, 1, h));
                x.heard(0, late);
                due("late()", x.late(), late == 0 ? 15 : 1 << h);
                x.heard(1, late);
                due("late()", x.late(), late == 0 ? 15 : 1 << h);
                x.heard(0, 0);
                due("late()", x.late(), late == 0 ? 15 : 1 << h);
                x.heard(0, late);
                x.heard(1, 0);
                due("late()", x.late(), late == 0 ? 15 : 0);
                x.heard(1, late == 9 ? 8 : late + 1);
                due("late()", x.late(), late == 0 ? 1 << h : 0);
            }
        }
        // a MOMENT between the last in time and the first late one; none between
        x = of(n(10, 5, 1, 3), n(20, 6, 1, 3), n(30, 6, 1, 3));
        x.heard(0, 0);
        x.heard(1, 1);
        due("late()", x.late(), 8);
        x.heard(2, 0);
        due("late(), in one MOMENT one late and one not", x.late(), 0);
        x.heard(2, 1);
        due("late()", x.late(), 8);
        // not heard is no matter, and who plays now is who was late
        x.heard(2, -1);
        x.give(2, 0);
        due("late()", x.late(), 8);
        x.give(1, 2);
        due("late()", x.late(), 4);
        x.give(1, -1);
        due("late(), left out", x.late(), 0);
    }

    private static void eveningEdges() {
        promise = 27;
        // the first is late and the second is not, as what is left over by 100 is less than w; SEED 999999: 28, then 58; SEED 1: 38, 58
        int[][] seeds = {{0, 0, 68}, {1, 38, 58}, {999999, 28, 58}, {999998, 90, 67}};
        for (int[] s : seeds) {
            FourHands x = of(n(10, 5, 2, 0), n(10, 7, 1, 1));
            for (int w = 0; w <= 100; w++) due("evening(" + s[0] + ", " + w + ")", x.evening(s[0], w), s[1] < w && w <= s[2] ? 1 : 0);
        }
        // 63 at most: the one in 63 stays, the one in 62 comes to it
        FourHands x = of(n(10, 62, 1, 0), n(10, 63, 1, 1));
        due("evening(7, 0)", x.evening(7, 0), 0);
        due("evening(7, 100)", x.evening(7, 100), 1);
        due("evening(7, 100) of two in 63", of(n(10, 63, 1, 0), n(10, 63, 1, 1)).evening(7, 100), 1);
        due("evening(7, 100) of the last 8", of(n(10, 56, 8, 0), n(10, 63, 1, 1)).evening(7, 100), 1);
        due("evening(7, 100) of 61 and 62", of(n(10, 61, 1, 0), n(10, 62, 1, 1)).evening(7, 100), 0);
        // clashes of other sorts come and go: SEED 0 makes the first late from 1 on, the second from 69 on
        int[][] pairs = {{10, 5, 1, 0, 14, 7, 1, 0}, {10, 5, 1, 0, 30, 6, 1, 0}, {21, 5, 1, 0, 20, 6, 1, 2}, {20, 5, 1, 1, 40, 6, 1, 3}};
        int[][] counts = {{0, 1, 0}, {1, 1, 1}, {0, 1, 0}, {0, 1, 0}};
        for (int k = 0; k < pairs.length; k++) {
            int[] p = pairs[k];
            x = of(n(p[0], p[1], p[2], p[3]), n(p[4], p[5], p[6], p[7]));
            for (int w = 0; w <= 100; w++) due("evening(0, " + w + ") of pair " + k, x.evening(0, w), counts[k][w == 0 ? 0 : w <= 68 ? 1 : 2]);
        }
        // the 12th takes its turn: SEED 0: 0, 68, 88, 17, 98, 27, 45, 41, 22, 10, 61, 52
        x = alike(11, -1);
        x.give(0, 0);
        x.note(5, 5, 1, 0, 0, 1);
        for (int w = 0; w <= 100; w++) due("evening(0, " + w + ")", x.evening(0, w), w == 0 || w > 52 ? 1 : 0);
    }

    // ---- what there is

    private static void imageEdges() {
        promise = 29;
        FourHands x = new FourHands();
        due("image(0)", x.image(0), 1);
        due("image(1)", x.image(1), 1);
        // of nothing, and kept over
        long fresh = x.digest();
        for (int i = 0; i < 12; i++) x.note(5, 5, 1, 0, 0, 0);
        for (int i = 0; i < 11; i++) x.give(i, 1);
        for (int i = 0; i < 12; i++) x.heard(i, 9);
        x.pedal(0, 64);
        x.hand(3, 5, 15, 9);
        due("image(1)", x.image(1), 1);
        long full = x.digest();
        promise = 30;
        due("from(0)", x.from(0), 1);
        due("digest()", x.digest(), fresh);
        due("undo()", x.undo(), -3);
        due("from(1)", x.from(1), 1);
        due("digest()", x.digest(), full);
        for (int i = 0; i < 10; i++) due("undo()", x.undo(), 66);
        due("undo()", x.undo(), -3);
        due("from(1), what may be undone is there still", x.from(1), 1);
        due("digest()", x.digest(), full);
        // what comes later does not change an IMAGE
        x.give(0, -1);
        x.heard(0, 0);
        x.hand(0, 1, 1, 1);
        x.pedal(1, 2);
        typed(x, "piece 9;");
        due("read()", x.read(), 1);
        x.clear();
        due("from(1)", x.from(1), 1);
        due("digest()", x.digest(), full);
        // an IMAGE taken where it went on from the other one
        due("image(0)", x.image(0), 1);
        x.note(5, 5, 1, 0, 0, 0);
        x.give(0, -1);
        due("from(0)", x.from(0), 1);
        due("digest()", x.digest(), full);
        due("status(1)", x.status(1), 2);
        due("status(2)", x.status(2), 1);
        // what may be undone is the IMAGE's own: another NOTE, another HAND were given since
        x = of(n(5, 5, 1, 0), n(9, 9, 1, 1), n(20, 20, 1, 2));
        x.give(0, 3);
        x.image(0);
        x.undo();
        x.give(2, -1);
        due("from(0)", x.from(0), 1);
        due("undo()", x.undo(), 0);
        for (int i = 0; i < 3; i++) due("of(" + i + ", 5)", x.of(i, 5), i);
    }

    private static void statusEdges() {
        promise = 31;
        FourHands x = new FourHands();
        due("status(3)", x.status(3), -1);
        due("status(0)", x.status(0), 1);
        due("status(-1)", x.status(-1), -1);
        due("status(0)", x.status(0), 2);
        // all the calls of an object
        x = new FourHands();
        for (int i = 0; i < 170; i++) {
            x.piece(10);
            x.undo();
            x.type(i);
        }
        due("status(0)", x.status(0), 170 + 42);
        due("status(1)", x.status(1), 170);
    }

    private static void countEdges() {
        promise = 32;
        counts(alike(12, -1), 12, 0, 2, 0, 0, 0);
        FourHands x = alike(12, 3);
        for (int i = 0; i < 11; i++) x.give(i, 2);
        x.pedal(0, 64);
        typed(x, ";".repeat(151));
        counts(x, 12, 12, 2, 64, 10, 150);
        x.piece(9);
        counts(x, 0, 0, 9, 0, 0, 0);
    }

    private static void digestWraps() {
        promise = 33;
        FourHands x = new FourHands();
        x.piece(9);
        long[] v = new long[6 + 12 + 2 + 12 * 7 + 2];
        int k = 6;
        for (int h = 0; h < 4; h++) {
            x.hand(h, 5 - h, 15 - h, 9 - h);
            for (int a : new int[] {5 - h, 15 - h, 9 - h}) v[k++] = a;
        }
        x.pedal(1, 64);
        v[k++] = 1;
        v[k++] = 64;
        for (int i = 0; i < 12; i++) {
            int[] a = {47 - i, 56 - i, 8 - i % 8, i % 2, 9 - i % 10, i % 5 - 1, i % 11 - 1};
            x.note(a[0], a[1], a[2], a[3], a[4], 0);
            for (int b : a) v[k++] = b;
        }
        for (int i = 0; i < 12; i++) {
            x.give(i, i % 5 - 1);
            x.heard(i, i % 11 - 1);
        }
        x.breath(20, 19);
        v[k++] = 439;
        v[k++] = 441;
        typed(x, "x".repeat(150));
        int[] counts = {12, 9, 9, 63, 10, 150};
        for (int i = 0; i < 6; i++) v[i] = counts[i];
        due("digest()", x.digest(), fold(v));
        due("digest(), again", x.digest(), fold(v));
    }
}
