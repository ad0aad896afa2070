/** For each promise of the document: ordinary inputs, the edges that it names, wrong inputs; answers worked out by hand. */
public final class PromisesTest extends Checks {
    public static void main(String[] args) {
        newObject();
        piece();
        hand();
        note();
        type();
        clear();
        read();
        faults();
        give();
        undo();
        of();
        about();
        clash();
        clashEdges();
        clashes();
        given();
        out();
        fingers();
        pedal();
        blurs();
        best();
        turns();
        covered();
        places();
        practice();
        breath();
        heard();
        late();
        evening();
        part();
        imageAndFrom();
        status();
        count();
        digest();
        everyPromise();
        end("PromisesTest");
    }

    private static void newObject() {
        promise = 1;
        FourHands x = new FourHands();
        int[] counts = {0, 0, 2, 0, 0, 0};
        for (int what = 0; what < 6; what++) due("count(" + what + ")", x.count(what), counts[what]);
        int[] first = {0, 9, 4, 2, 0};
        for (int h = 0; h < 4; h++) for (int what = 0; what < 5; what++) due("about(" + h + ", " + what + ")", x.about(h, what), first[what]);
        due("part(0)", x.part(0), 0);
        due("part(1)", x.part(1), 1);
        for (int what = 0; what < 3; what++) due("status(" + what + ")", x.status(what), 0);
        due("from(0)", x.from(0), -3);
        due("from(1)", x.from(1), -3);
        due("undo()", x.undo(), -3);
        due("clear()", x.clear(), 0);
    }

    private static void piece() {
        promise = 2;
        FourHands x = of(n(1, 2, 3, 0), n(5, 6, 7, -1));
        long fresh = new FourHands().digest();
        x.hand(2, 3, 4, 5);
        x.pedal(3, 9);
        x.heard(0, 4);
        x.give(0, 1);
        typed(x, "abc");
        x.breath(1, 0);
        x.image(1);
        x.piece(10);
        x.undo();
        x.undo();
        due("piece(-1)", x.piece(-1), -2);
        due("piece(10)", x.piece(10), -2);
        due("piece(MIN)", x.piece(MIN), -2);
        due("count(0)", x.count(0), 2);
        due("count(2)", x.count(2), 2);
        due("piece(9)", x.piece(9), 2);
        due("count(2)", x.count(2), 9);
        due("piece(0)", x.piece(0), 0);
        due("count(2)", x.count(2), 0);
        due("piece(2)", x.piece(2), 0);
        due("digest()", x.digest(), fresh);
        // "all else as at first" names no exception
        due("status(0)", x.status(0), 0);
        due("status(1)", x.status(1), 0);
        due("count(5)", x.count(5), 0);
        due("part(1)", x.part(1), 1);
        due("from(1)", x.from(1), -3);
        x.note(1, 1, 1, 0, 0, 0);
        due("heard(0, 1)", x.heard(0, 1), -1);
    }

    private static void hand() {
        promise = 3;
        FourHands x = new FourHands();
        due("hand(3, 5, 15, 9)", x.hand(3, 5, 15, 9), 0);
        due("hand(3, 1, 0, 1)", x.hand(3, 1, 0, 1), 5);
        due("hand(3, 2, 7, 3)", x.hand(3, 2, 7, 3), 1);
        due("about(3, 0)", x.about(3, 0), 2);
        due("about(3, 1)", x.about(3, 1), 7);
        due("about(3, 2)", x.about(3, 2), 3);
        int[][] wrongs = {{-1, 0, 0, 1}, {4, 0, 0, 1}, {0, -1, 0, 1}, {0, 6, 0, 1}, {0, 0, -1, 1}, {0, 0, 16, 1}, {0, 0, 0, 0}, {0, 0, 0, 10}, {MAX, MIN, MAX, MIN}};
        long was = x.digest();
        for (int[] w : wrongs) due("hand wrong", x.hand(w[0], w[1], w[2], w[3]), -2);
        due("digest()", x.digest(), was);
        due("status(0)", x.status(0), wrongs.length);
    }

    private static void note() {
        promise = 4;
        FourHands x = new FourHands();
        int[][] wrongs = {{-1, 0, 1, 0, 0, 0}, {48, 0, 1, 0, 0, 0}, {0, -1, 1, 0, 0, 0}, {0, 64, 1, 0, 0, 0}, {0, 0, 0, 0, 0, 0}, {0, 0, 9, 0, 0, 0},
            {0, 0, 1, -1, 0, 0}, {0, 0, 1, 2, 0, 0}, {0, 0, 1, 0, -1, 0}, {0, 0, 1, 0, 10, 0}, {0, 0, 1, 0, 0, -2}, {0, 0, 1, 0, 0, 4},
            {0, 57, 8, 0, 0, 0}, {0, 63, 2, 0, 0, 0}, {0, MAX, MAX, 0, 0, 0}, {0, MIN, MIN, 0, 0, 0}};
        for (int[] w : wrongs) due("note wrong", x.note(w[0], w[1], w[2], w[3], w[4], w[5]), -2);
        due("count(0)", x.count(0), 0);
        due("note(47, 56, 8, 1, 9, 3)", x.note(47, 56, 8, 1, 9, 3), 0);
        due("note(0, 63, 1, 0, 0, -1)", x.note(0, 63, 1, 0, 0, -1), 1);
        due("give(0, 1)", x.give(0, 1), 0);
        due("count(4)", x.count(4), 1);
        due("note(0, 0, 1, 0, 0, -1)", x.note(0, 0, 1, 0, 0, -1), 2);
        due("count(4), a NOTE told leaves none", x.count(4), 0);
        x.give(0, 2);
        due("a refused one leaves it", x.note(0, 0, 0, 0, 0, 0), -2);
        due("count(4)", x.count(4), 1);
        for (int i = 3; i < 12; i++) due("note", x.note(i, i, 1, 0, 0, -1), i);
        x.give(0, 3);
        due("a 13th", x.note(0, 0, 1, 0, 0, 0), -4);
        due("a 13th, BAD ahead of FULL", x.note(0, 0, 1, 0, 0, 4), -2);
        due("status(2)", x.status(2), 1);
        due("count(0)", x.count(0), 12);
        due("count(4)", x.count(4), 1);
        due("of(11, 0)", x.of(11, 0), 11);
    }

    private static void type() {
        promise = 5;
        FourHands x = new FourHands();
        due("type(-1)", x.type(-1), -2);
        due("type(128)", x.type(128), -2);
        due("type(0)", x.type(0), 1);
        due("type(127)", x.type(127), 2);
        for (int i = 3; i <= 150; i++) due("type(32)", x.type(32), i);
        due("the 151st", x.type(32), -4);
        due("BAD ahead of FULL", x.type(128), -2);
        due("status(2)", x.status(2), 1);
        due("status(0)", x.status(0), 3);
        due("count(5)", x.count(5), 150);
    }

    private static void clear() {
        promise = 6;
        FourHands x = of(n(1, 1, 1, 0));
        typed(x, "piece 1;");
        due("clear()", x.clear(), 8);
        due("clear()", x.clear(), 0);
        due("count(5)", x.count(5), 0);
        due("read()", x.read(), -10);
        due("count(0)", x.count(0), 1);
        due("type(59)", x.type(59), 1);
    }

    private static void read() {
        promise = 7;
        FourHands x = of(n(1, 1, 1, 0), n(2, 2, 2, 1));
        x.hand(3, 5, 5, 5);
        x.pedal(2, 5);
        x.heard(0, 1);
        x.give(0, 1);
        x.breath(2, 0);
        x.image(0);
        x.count(9);
        typed(x, "piece 7;hand 1 4 15 9;note 47 63 1 1 9 4;  note0 0 8 0 0 3 ;");
        due("read()", x.read(), 4);
        due("count(0)", x.count(0), 2);
        due("count(1)", x.count(1), 1);
        due("count(2)", x.count(2), 7);
        due("count(3)", x.count(3), 0);
        due("count(4)", x.count(4), 0);
        due("count(5)", x.count(5), 60);
        due("about(1, 0)", x.about(1, 0), 4);
        due("about(1, 1)", x.about(1, 1), 15);
        due("about(1, 2)", x.about(1, 2), 18);
        due("about(3, 0), as at first", x.about(3, 0), 0);
        due("about(3, 1), as at first", x.about(3, 1), 9);
        due("about(3, 2), as at first", x.about(3, 2), 4);
        int[][] notes = {{47, 63, 1, 1, 9, -1}, {0, 0, 8, 0, 0, 3}};
        for (int i = 0; i < 2; i++) for (int w = 0; w < 6; w++) due("of(" + i + ", " + w + ")", x.of(i, w), notes[i][w]);
        due("heard(0, -1)", x.heard(0, -1), -1);
        due("part(1)", x.part(1), 3);
        due("status(0)", x.status(0), 1);
        due("undo()", x.undo(), -3);
        due("from(0)", x.from(0), 1);
        due("count(3)", x.count(3), 3);
        due("count(4)", x.count(4), 1);
        due("read() again", x.read(), 4);
        typed(x, "  piece 03 ;  ");
        due("read()", x.read(), 1);
        due("count(2)", x.count(2), 3);
        typed(x, "piece 1;hand 0 1 2 3;hand 0 2 09 04;");
        due("the later item holds", x.read(), 3);
        due("about(0, 0)", x.about(0, 0), 2);
        due("about(0, 1)", x.about(0, 1), 9);
    }

    private static void fault(String text, int place) {
        FourHands x = of(n(1, 1, 1, 0), n(2, 2, 2, 1));
        x.give(0, 2);
        x.pedal(1, 2);
        typed(x, text);
        long was = x.digest();
        due("read() of \"" + text + "\"", x.read(), -10 - place);
        due("digest() behind \"" + text + "\"", x.digest(), was);
        due("status(0) behind \"" + text + "\"", x.status(0), 0);
    }

    private static void faults() {
        promise = 7;
        fault("", 0);
        fault("   ", 3);
        fault("piece", 5);
        fault("piece ", 6);
        fault("piece 1", 7);
        fault("piece 1;note", 12);
        fault("piece 1;note 1 2 3 0 5 1", 24);
        fault("piec 1;", 0);
        fault("  pieces 1;", 2);
        fault("pie", 0);
        fault("piecez 1;", 0);
        fault("apiece 1;", 0);
        fault("piece{1;", 5);
        fault("piece`1;", 5);
        fault("piece 1/", 7);
        fault("piece 1:", 7);
        fault("Piece 1;", 0);
        fault("piece 10;", 6);
        fault("piece 001;", 6);
        fault("piece 1 2;", 8);
        fault("piece x;", 6);
        fault("piece ;", 6);
        fault("piece -1;", 6);
        fault("piece 1;;", 8);
        fault("piece 1; piece 1;", 9);
        fault("note 1 2 3 0 5 1;", 0);
        fault("hand 0 0 0 1;piece 1;", 0);
        fault(";", 0);
        fault("7", 0);
        fault("piece 1;hands 0 0 0 1;", 8);
        fault("piece 1;x", 8);
        fault("piece 1;\t", 8);
        fault("piece\t1;", 5);
        fault("piece 1,", 7);
        fault("piece 1;hand 4 0 0 1;", 13);
        fault("piece 1;hand 0 6 0 1;", 15);
        fault("piece 1;hand 0 0 16 1;", 17);
        fault("piece 1;hand 0 0 0 0;", 19);
        fault("piece 1;hand 0 0 0 10;", 19);
        fault("piece 1;hand 0 0 0 1 1;", 21);
        fault("piece 1;hand 0 0 0;", 18);
        fault("piece 1;note 48 0 1 0 0 0;", 13);
        fault("piece 1;note 0 64 1 0 0 0;", 15);
        fault("piece 1;note 0 0 0 0 0 0;", 17);
        fault("piece 1;note 0 0 9 0 0 0;", 17);
        fault("piece 1;note 0 63 2 0 0 0;", 18);
        fault("piece 1;note 0 0 1 2 0 0;", 19);
        fault("piece 1;note 0 0 1 0 10 0;", 21);
        fault("piece 1;note 0 0 1 0 0 5;", 23);
        fault("piece 1;note 100 0 1 0 0 0;", 13);
        fault("piece 1;note 1 1 1 0 0 0;note 000", 30);
        fault("piece 1;note 0 0 1 0 0 0", 24);
        fault("piece 1;note 0 0 1 0 0 0 \u007f", 25);
        // more digits than an int holds
        fault("piece 4294967297;", 6);
    }

    private static void give() {
        promise = 8;
        FourHands x = of(n(10, 0, 2, 0), n(25, 0, 2, 0), n(10, 1, 1, -1));
        due("give(1, 0), the same", x.give(1, 0), 1);
        due("give(1, 1)", x.give(1, 1), 0);
        due("give(2, 3)", x.give(2, 3), 1);
        due("give(2, -1)", x.give(2, -1), 0);
        due("of(2, 5)", x.of(2, 5), -1);
        due("count(4)", x.count(4), 4);
        long was = x.digest();
        due("give(3, 0)", x.give(3, 0), -2);
        due("give(-1, 0)", x.give(-1, 0), -2);
        due("give(0, 4)", x.give(0, 4), -2);
        due("give(0, -2)", x.give(0, -2), -2);
        due("give(MIN, MAX)", x.give(MIN, MAX), -2);
        due("digest()", x.digest(), was);
    }

    private static void undo() {
        promise = 9;
        FourHands x = of(n(10, 0, 2, 0), n(25, 0, 2, 0));
        due("undo()", x.undo(), -3);
        due("status(1)", x.status(1), 1);
        for (int i = 0; i < 12; i++) x.give(i % 2, i % 4);
        due("count(4), 10 at most", x.count(4), 10);
        // givings 0 .. 11: NOTE i % 2 to HAND i % 4; taken back to what stood behind giving 1
        for (int i = 0; i < 9; i++) x.undo();
        due("undo()", x.undo(), 0);
        due("of(0, 5)", x.of(0, 5), 0);
        due("of(1, 5)", x.of(1, 5), 1);
        due("undo()", x.undo(), -3);
        due("status(1)", x.status(1), 2);
        x.give(1, 0);
        x.give(1, -1);
        due("undo()", x.undo(), 1);
        due("of(1, 5)", x.of(1, 5), 0);
        // unlike NOTES and HANDS: each goes back to just where it was
        FourHands y = new FourHands();
        for (int i = 0; i < 12; i++) y.note(4 * i, 5 * i, 1, 0, 0, (i + 1) % 4);
        for (int i = 0; i < 12; i++) y.give(i, (i + 2) % 4);
        for (int i = 11; i >= 2; i--) {
            due("count(4)", y.count(4), i - 1);
            y.undo();
            for (int k = 0; k < 12; k++) due("of(" + k + ", 5)", y.of(k, 5), (k < i ? k + 2 : k + 1) % 4);
        }
        due("undo()", y.undo(), -3);
        // a HAND and the PEDAL told meanwhile stay as told
        x.hand(0, 0, 15, 4);
        due("undo()", x.undo(), 0);
        due("about(0, 1)", x.about(0, 1), 15);
    }

    private static void of() {
        promise = 10;
        FourHands x = new FourHands();
        due("of(0, 0)", x.of(0, 0), -10);
        x.note(47, 61, 3, 1, 8, -1);
        int[] want = {47, 61, 3, 1, 8, -1};
        for (int w = 0; w < 6; w++) due("of(0, " + w + ")", x.of(0, w), want[w]);
        due("of(0, 6)", x.of(0, 6), -10);
        due("of(0, -1)", x.of(0, -1), -10);
        due("of(1, 0)", x.of(1, 0), -10);
        due("of(-1, 0)", x.of(-1, 0), -10);
        due("of(MAX, MAX)", x.of(MAX, MAX), -10);
        due("status(0)", x.status(0), 6);
    }

    private static void about() {
        promise = 11;
        FourHands x = of(n(1, 1, 1, 2), n(2, 2, 2, 1), n(3, 3, 3, 2), n(4, 4, 4, -1));
        int[][] first = {{9, 4, 2}, {9, 8, 2}, {9, 4, 3}, {7, 2, 2}, {9, 8, 1}, {7, 2, 4}};
        int[][] little = {{1, 1, 9}, {1, 2, 9}, {1, 1, 10}, {0, 1, 9}, {1, 2, 4}, {0, 1, 18}};
        for (int kind = 0; kind < 6; kind++) {
            x.hand(2, kind, 9, 4);
            for (int w = 0; w < 3; w++) due("about(2, " + (w + 1) + ") of KIND " + kind, x.about(2, w + 1), first[kind][w]);
            due("about(2, 4)", x.about(2, 4), 5);
        }
        due("about(1, 4)", x.about(1, 4), 2);
        due("about(0, 4)", x.about(0, 4), 0);
        due("about(-1, 0)", x.about(-1, 0), -2);
        due("about(4, 0)", x.about(4, 0), -2);
        due("about(0, -1)", x.about(0, -1), -2);
        due("about(0, 5)", x.about(0, 5), -2);
        due("about(MIN, MIN)", x.about(MIN, MIN), -2);
        due("status(0)", x.status(0), 5);
        x.piece(9);
        for (int kind = 0; kind < 6; kind++) {
            x.hand(0, kind, 1, 1);
            due("about(0, 0)", x.about(0, 0), kind);
            for (int w = 0; w < 3; w++) due("about(0, " + (w + 1) + ") of KIND " + kind, x.about(0, w + 1), little[kind][w]);
        }
        x.hand(0, 3, 2, 3);
        due("about(0, 1)", x.about(0, 1), 0);
        due("about(0, 2), cut", x.about(0, 2), 1);
        x.hand(0, 3, 3, 9);
        due("about(0, 1)", x.about(0, 1), 1);
        due("about(0, 2), cut", x.about(0, 2), 4);
    }

    private static void sort(int want, int[] a, int[] b) {
        FourHands x = of(a, b);
        due("clash(0, 1)", x.clash(0, 1), want);
        due("clash(1, 0)", x.clash(1, 0), want);
    }

    private static void clash() {
        promise = 12;
        sort(0, n(20, 5, 1, 0), n(20, 5, 8, 0));
        sort(0, n(20, 5, 1, 0), n(20, 5, 8, 1));
        sort(0, n(20, 5, 1, 0), n(20, 5, 8, 3));
        sort(-1, n(20, 5, 1, 0), n(20, 5, 8, -1));
        sort(-1, n(20, 5, 1, -1), n(20, 5, 8, -1));
        sort(1, n(20, 5, 2, 0), n(20, 6, 8, 0));
        sort(1, n(20, 5, 2, 0), n(20, 6, 8, 1));
        sort(1, n(20, 5, 2, 3), n(20, 6, 8, 1));
        sort(1, n(20, 6, 2, 3), n(20, 5, 2, 1));
        sort(-1, n(20, 5, 1, 0), n(20, 6, 8, 0));
        sort(-1, n(20, 5, 1, 0), n(20, 6, 8, 3));
        FourHands x = of(n(1, 1, 1, 0), n(1, 1, 1, 1));
        due("clash(0, 0)", x.clash(0, 0), -2);
        due("clash(1, 1)", x.clash(1, 1), -2);
        due("clash(0, 2)", x.clash(0, 2), -2);
        due("clash(2, 0)", x.clash(2, 0), -2);
        due("clash(-1, 0)", x.clash(-1, 0), -2);
        due("clash(0, -1)", x.clash(0, -1), -2);
        due("clash(MAX, MIN)", x.clash(MAX, MIN), -2);
        due("status(0)", x.status(0), 7);
    }

    private static void clashEdges() {
        promise = 12;
        // STRETCH: further than 9
        sort(-1, n(20, 5, 2, 0), n(29, 6, 1, 0));
        sort(2, n(20, 5, 2, 0), n(30, 6, 1, 0));
        sort(2, n(30, 6, 1, 3), n(20, 5, 2, 3));
        sort(-1, n(20, 5, 2, 0), n(40, 6, 1, 1));
        // ELBOW: nearer than 2, above or below; CROSSED: hers below his
        sort(3, n(21, 5, 2, 0), n(20, 6, 1, 2));
        sort(3, n(20, 5, 2, 0), n(21, 6, 1, 2));
        sort(-1, n(22, 5, 2, 0), n(20, 6, 1, 2));
        sort(4, n(20, 5, 2, 0), n(22, 6, 1, 2));
        sort(4, n(22, 5, 2, 3), n(20, 6, 1, 1));
        sort(-1, n(20, 5, 2, 3), n(22, 6, 1, 1));
        sort(-1, n(20, 5, 1, 3), n(21, 6, 1, 1));
        // LATE: 4 KEYS a MOMENT
        sort(5, n(20, 5, 1, 0), n(21, 6, 1, 0));
        sort(-1, n(20, 5, 1, 0), n(24, 7, 1, 0));
        sort(5, n(20, 5, 1, 0), n(25, 7, 1, 0));
        sort(5, n(25, 8, 1, 0), n(20, 5, 2, 0));
        sort(-1, n(25, 9, 1, 0), n(20, 5, 2, 0));
        sort(-1, n(20, 5, 1, 0), n(25, 7, 1, 1));
        // each HAND's own KIND counts
        FourHands x = of(n(22, 5, 2, 1), n(20, 5, 2, 2), n(40, 5, 1, 0), n(48 - 2, 8, 1, 0));
        due("clash(0, 1)", x.clash(0, 1), -1);
        due("clash(2, 3)", x.clash(2, 3), -1);
        x.hand(2, 2, 9, 4);
        due("clash(0, 1), RINGED his", x.clash(0, 1), 3);
        x.hand(2, 0, 9, 4);
        x.hand(1, 5, 9, 4);
        due("clash(0, 1), HEAVY hers", x.clash(0, 1), 3);
        x.hand(1, 4, 9, 4);
        x.give(0, 1);
        due("clash(0, 1), LIGHT hers", x.clash(0, 1), -1);
        x.hand(0, 5, 9, 5);
        due("clash(2, 3), HEAVY", x.clash(2, 3), 5);
        x.hand(0, 1, 9, 1);
        due("clash(2, 3), QUICK", x.clash(2, 3), 5);
        x.hand(0, 1, 9, 2);
        due("clash(2, 3), QUICK", x.clash(2, 3), -1);
        x = of(n(20, 5, 2, 0), n(20, 5, 2, 2), n(21, 5, 2, 2));
        x.piece(0);
        x.note(20, 5, 2, 0, 0, 0);
        x.note(21, 5, 2, 0, 0, 2);
        due("clash(0, 1), NEAR 0", x.clash(0, 1), 4);
    }

    private static void clashes() {
        promise = 13;
        // 0-1 WANTED; 2-3 STRETCH; 4-5 LATE; 2-4, 3-5 are far enough
        FourHands x = of(n(10, 0, 1, 3), n(10, 0, 1, 2), n(20, 20, 2, 0), n(35, 20, 2, 0), n(20, 40, 1, 0), n(30, 42, 1, 0), n(10, 0, 1, -1));
        due("clashes(-1, -1)", x.clashes(-1, -1), 3);
        int[] rows = {1, 203, 405};
        for (int i = 0; i < 3; i++) due("clashes(-1, " + i + ")", x.clashes(-1, i), rows[i]);
        due("clashes(-1, 3)", x.clashes(-1, 3), -5);
        due("clashes(-1, MAX)", x.clashes(-1, MAX), -5);
        int[] many = {1, 0, 1, 0, 0, 1};
        int[] first = {1, -5, 203, -5, -5, 405};
        for (int s = 0; s < 6; s++) {
            due("clashes(" + s + ", -1)", x.clashes(s, -1), many[s]);
            due("clashes(" + s + ", 0)", x.clashes(s, 0), first[s]);
            due("clashes(" + s + ", 1)", x.clashes(s, 1), -5);
        }
        due("status(0), -5 is not such a one", x.status(0), 0);
        due("clashes(6, -1)", x.clashes(6, -1), -10);
        due("clashes(-2, -1)", x.clashes(-2, -1), -10);
        due("clashes(0, -2)", x.clashes(0, -2), -10);
        due("status(0)", x.status(0), 3);
    }

    private static void given() {
        promise = 14;
        // 0-1 and 2-3 STRETCH, far from one another
        FourHands x = of(n(0, 0, 2, 0), n(20, 0, 2, 0), n(0, 30, 2, 0), n(20, 30, 2, 0), n(0, 0, 1, -1));
        long was = x.digest();
        due("given(0, -1)", x.given(0, -1), 2);
        due("given(0, 0)", x.given(0, 0), -5);
        due("given(1, -1)", x.given(1, -1), 1);
        due("given(1, 0)", x.given(1, 0), 1);
        due("given(1, 1)", x.given(1, 1), -5);
        due("given(2, -1)", x.given(2, -1), 0);
        due("given(2, 0)", x.given(2, 0), 1);
        due("given(2, 1)", x.given(2, 1), 21);
        due("given(2, 2)", x.given(2, 2), -5);
        due("given(2, MAX)", x.given(2, MAX), -5);
        due("digest(), nothing is changed", x.digest(), was);
        // who is left out stays so, and none is left out: two of one KEY clash by all HANDS
        x = of(n(5, 5, 1, 0), n(5, 5, 1, 1), n(5, 5, 1, -1));
        due("given(2, -1)", x.given(2, -1), 1);
        due("given(2, 0), fewer NOTES", x.given(2, 0), -5);
        // one is enough: of like ones fewer NOTES
        x = of(n(5, 5, 1, 0), n(25, 5, 1, 0));
        due("given(2, -1)", x.given(2, -1), 0);
        due("given(2, 0)", x.given(2, 0), 1);
        due("given(2, 1)", x.given(2, 1), -5);
        // the two that are given count with one another as they are then
        x = of(n(0, 0, 2, 1), n(20, 0, 2, 1), n(40, 0, 2, 1), n(10, 0, 2, 0), n(30, 0, 2, 0));
        due("given(0, -1)", x.given(0, -1), 4);
        due("given(2, -1)", x.given(2, -1), 1);
        due("given(3, 0)", x.given(3, 0), -10);
        due("given(-1, 0)", x.given(-1, 0), -10);
        due("given(0, -2)", x.given(0, -2), -10);
        due("status(0)", x.status(0), 3);
    }

    private static void out() {
        promise = 15;
        due("out()", new FourHands().out(), 0);
        due("out()", of(n(1, 1, 1, 0)).out(), 0);
        due("out(), the least bits", of(n(5, 5, 1, 0), n(5, 5, 1, 1)).out(), 1);
        // 2 clashes with 0 and with 1, which do not clash
        due("out(), the fewest", of(n(0, 5, 1, 0), n(9, 5, 1, 0), n(19, 5, 1, 0), n(28, 5, 1, 1)).out(), 4);
        due("out(), the fewest", of(n(5, 5, 1, 0), n(5, 17, 1, 1), n(5, 8, 8, 0), n(5, 13, 8, 0)).out(), 8);
        due("out(), left out ones do not count", of(n(5, 5, 1, -1), n(5, 5, 1, 1), n(5, 5, 1, 2)).out(), 2);
        FourHands x = new FourHands();
        for (int i = 0; i < 12; i++) x.note(7, 7, 1, 0, 0, i % 4);
        due("out()", x.out(), 2047);
        due("count(1), nothing is changed", x.count(1), 12);
    }

    private static void fingers() {
        promise = 16;
        FourHands x = of(n(20, 0, 1, 1), n(22, 1, 1, 1), n(21, 2, 1, 1), n(3, 3, 3, 0));
        // 20 22 21 by 0 2 1: as far apart as the fingers
        row(x, 1, 0, 0, 2, 1);
        row(x, 0, 0, 0);
        row(x, 2, 0);
        // one MOMENT: by KEY, then number; a KEY twice by one finger costs nothing
        row(of(n(24, 5, 1, 3), n(20, 5, 1, 3), n(24, 9, 1, 3), n(20, 2, 1, 3)), 3, 0, 0, 0, 4, 4);
        // 9 upwards: 4 of them by fingers
        row(of(n(20, 0, 1, 0), n(29, 1, 1, 0)), 0, 5, 0, 4);
        row(of(n(29, 0, 1, 0), n(20, 1, 1, 0)), 0, 5, 4, 0);
        // 1 upwards five times: 3 for one finger twice would be more than a turn of the hand
        row(of(n(20, 0, 1, 0), n(21, 1, 1, 0), n(22, 2, 1, 0), n(23, 3, 1, 0), n(24, 4, 1, 0), n(25, 5, 1, 0)), 0, 2, 0, 1, 0, 1, 2, 3);
        // the two of one HAND, the other HAND's are no matter
        row(of(n(20, 0, 1, 0), n(47, 1, 1, 1), n(21, 2, 1, 0)), 0, 0, 0, 1);
        x = new FourHands();
        for (int i = 0; i < 9; i++) x.note(i, i, 1, 0, 0, i < 8 ? 2 : -1);
        due("fingers(2, -1) of 8", x.fingers(2, -1), 3);
        x.give(8, 2);
        due("fingers(2, -1) of 9", x.fingers(2, -1), -20);
        due("fingers(2, 100) of 9", x.fingers(2, 100), -20);
        due("BAD ahead of NO", x.fingers(2, -2), -10);
        due("fingers(4, -1)", x.fingers(4, -1), -10);
        due("fingers(-1, -1)", x.fingers(-1, -1), -10);
        due("fingers(0, MAX)", x.fingers(0, MAX), -5);
        due("status(0)", x.status(0), 3);
        due("status(1)", x.status(1), 2);
    }

    private static void row(FourHands x, int hand, int cost, int... fingers) {
        due("fingers(" + hand + ", -1)", x.fingers(hand, -1), cost);
        for (int i = 0; i < fingers.length; i++) due("fingers(" + hand + ", " + i + ")", x.fingers(hand, i), fingers[i]);
        due("fingers(" + hand + ", " + fingers.length + ")", x.fingers(hand, fingers.length), -5);
    }

    private static void pedal() {
        promise = 17;
        FourHands x = new FourHands();
        due("pedal(0, 64)", x.pedal(0, 64), 1);
        due("count(3)", x.count(3), 64);
        due("pedal(64, 64)", x.pedal(64, 64), 1);
        due("count(3)", x.count(3), 0);
        due("pedal(3, 5)", x.pedal(3, 5), 1);
        long was = x.digest();
        due("pedal(6, 5)", x.pedal(6, 5), -2);
        due("pedal(5, 65)", x.pedal(5, 65), -2);
        due("pedal(-1, 5)", x.pedal(-1, 5), -2);
        due("pedal(-5, -1)", x.pedal(-5, -1), -2);
        due("pedal(MIN, MAX)", x.pedal(MIN, MAX), -2);
        due("count(3)", x.count(3), 2);
        due("digest()", x.digest(), was);
        due("status(0)", x.status(0), 5);
    }

    private static void blurs() {
        promise = 18;
        FourHands x = of(n(20, 2, 2, 0), n(22, 4, 1, 1), n(21, 5, 1, 2), n(20, 4, 1, -1), n(25, 5, 1, 3), n(22, 5, 1, 3));
        due("blurs(0)", x.blurs(0), 0);
        due("blurs(1)", x.blurs(1), 0);
        x.pedal(2, 8);
        // 20-22 from 4 on: 4; 20-21, 22-21, 20-22', 21-22' from 5 on: 3 each
        due("blurs(0)", x.blurs(0), 4 + 4 * 3);
        // NOTE 0 ends in 3, 1 begins in 4; NOTE 1 ends in 4, 2 begins in 5
        due("blurs(1)", x.blurs(1), 2);
        x.pedal(3, 8);
        due("blurs(0), began while it was up", x.blurs(0), 3 + 3);
        due("blurs(1), but sounds last while it is down", x.blurs(1), 2);
        x.pedal(4, 6);
        due("blurs(0)", x.blurs(0), 1 + 1);
        due("blurs(1)", x.blurs(1), 1);
        x.pedal(2, 5);
        due("blurs(0)", x.blurs(0), 1);
        due("blurs(1), the next MOMENT is not down", x.blurs(1), 1);
        x.pedal(4, 5);
        due("blurs(1)", x.blurs(1), 0);
        x = of(n(20, 63, 1, 0), n(22, 62, 1, 1));
        x.pedal(0, 64);
        due("blurs(0)", x.blurs(0), 1);
        due("blurs(1)", x.blurs(1), 1);
        due("blurs(2)", x.blurs(2), -2);
        due("blurs(-1)", x.blurs(-1), -2);
        due("status(0)", x.status(0), 2);
    }

    private static void bestIs(FourHands x, int much, int fromTo) {
        due("best(0)", x.best(0), much);
        due("best(1)", x.best(1), fromTo);
    }

    private static void best() {
        promise = 19;
        bestIs(new FourHands(), 0, 0);
        bestIs(of(n(20, 2, 2, 0)), 0, 0);
        // from 3 (its last MOMENT) to behind 4
        bestIs(of(n(20, 2, 2, 0), n(30, 4, 1, 0)), 1, 305);
        bestIs(of(n(20, 62, 1, 0), n(30, 63, 1, 0)), 1, 6264);
        // a near KEY does not blur, if it began earlier
        bestIs(of(n(20, 2, 2, 0), n(21, 4, 1, 0)), 1, 305);
        bestIs(of(n(20, 3, 1, 0), n(21, 4, 1, 0)), 0, 0);
        // two joins 14 MOMENTS apart fit into 16, at 15 they do not: then the first
        bestIs(of(n(1, 10, 1, 0), n(11, 11, 1, 0), n(21, 24, 1, 0), n(31, 25, 1, 0)), 2, 1026);
        bestIs(of(n(1, 10, 1, 0), n(11, 11, 1, 0), n(21, 25, 1, 0), n(31, 26, 1, 0)), 1, 1012);
        bestIs(of(n(1, 10, 1, 0), n(11, 11, 1, 0), n(21, 25, 1, -1), n(31, 26, 1, 0), n(41, 9, 1, -1)), 1, 1012);
        FourHands x = of(n(20, 2, 2, 0), n(30, 4, 1, 0));
        x.pedal(9, 12);
        long was = x.digest();
        bestIs(x, 1, 305);
        due("digest(), nothing is changed", x.digest(), was);
        due("best(2)", x.best(2), -2);
        due("best(-1)", x.best(-1), -2);
        due("status(0)", x.status(0), 2);
    }

    private static void turns() {
        promise = 20;
        FourHands x = new FourHands();
        due("turns(0, 0, -1)", x.turns(0, 0, -1), 0);
        due("turns(63, 9, 1)", x.turns(63, 9, 1), 632);
        for (int h = 0; h < 4; h++) for (int from = 0; from < 3; from++) x.note(10 * h, 20 + 8 * from, 8, 0, 0, h);
        // all HANDS are taken from 20 to 43
        due("turns(20, 0, -1)", x.turns(20, 0, -1), -1);
        due("turns(20, 1, -1)", x.turns(20, 1, -1), 190);
        due("turns(43, 1, 1)", x.turns(43, 1, 1), 442);
        due("turns(31, 9, -1)", x.turns(31, 9, -1), -1);
        due("turns(28, 9, -1)", x.turns(28, 9, -1), 190);
        due("turns(28, 8, -1)", x.turns(28, 8, -1), -1);
        due("turns(35, 9, 0)", x.turns(35, 9, 0), 440);
        due("status(0), NONE is none", x.status(0), 0);
        // 3 is free from 28 to 35: earlier ahead of later
        x.give(10, -1);
        due("turns(27, 9, -1)", x.turns(27, 9, -1), 283);
        due("turns(27, 9, 0)", x.turns(27, 9, 0), 190);
        due("turns(30, 0, -1)", x.turns(30, 0, -1), 303);
        x = of(n(1, 10, 1, 2), n(5, 10, 1, 3), n(9, 9, 8, 0), n(19, 9, 8, 1));
        due("turns(10, 1, -1), earlier ahead of later", x.turns(10, 1, -1), 92);
        due("turns(10, 1, 1)", x.turns(10, 1, 1), 92);
        x = of(n(1, 0, 2, 2), n(5, 0, 2, 3), n(1, 62, 2, 2), n(5, 62, 2, 3));
        due("turns(0, 1, 1), no MOMENT below 0", x.turns(0, 1, 1), -1);
        due("turns(0, 2, 1)", x.turns(0, 2, 1), 22);
        due("turns(63, 1, 1), none above 63", x.turns(63, 1, 1), -1);
        due("turns(63, 2, 1)", x.turns(63, 2, 1), 612);
        int[][] wrongs = {{-1, 0, 0}, {64, 0, 0}, {0, -1, 0}, {0, 10, 0}, {0, 0, -2}, {0, 0, 2}, {MAX, MAX, MAX}, {MIN, MIN, MIN}};
        for (int[] w : wrongs) due("turns wrong", x.turns(w[0], w[1], w[2]), -2);
        due("status(0)", x.status(0), wrongs.length);
    }

    private static void covered() {
        promise = 21;
        FourHands x = new FourHands();
        due("covered()", x.covered(), 0);
        x.note(10, 2, 4, 0, 5, 0);
        x.note(20, 3, 1, 1, 3, 1);
        x.note(30, 3, 2, 1, 2, 1);
        due("covered(), as loud is not louder", x.covered(), 0);
        x.note(40, 3, 8, 1, 1, 2);
        due("covered()", x.covered(), 1 << 3);
        x.note(40, 5, 1, 1, 9, 3);
        due("covered()", x.covered(), 1 << 3 | 1 << 5);
        x.give(4, -1);
        due("covered(), left out does not sound", x.covered(), 1 << 3);
        x.give(0, -1);
        due("covered(), no tune", x.covered(), 0);
        x.note(1, 63, 1, 0, 0, 0);
        x.note(1, 63, 1, 1, 1, 0);
        x.note(3, 0, 1, 0, 0, 0);
        x.note(3, 0, 1, 1, 1, 0);
        due("covered()", x.covered(), 1L << 63 | 1);
    }

    private static void places() {
        promise = 22;
        due("places()", new FourHands().places(), 0);
        FourHands x = of(n(10, 0, 1, 0), n(30, 0, 1, 2));
        due("places(), CROSSED now", x.places(), 1);
        due("of(0, 5), nothing is changed", x.of(0, 5), 0);
        due("count(4)", x.count(4), 0);
        due("places()", of(n(10, 0, 1, 2), n(30, 0, 1, 0)).places(), -1);
        due("places()", of(n(10, 0, 1, 2), n(30, 0, 1, -1)).places(), 0);
        // 0 takes what 2 does, and 1 what 3 does: only 3 reaches far
        x = of(n(10, 0, 1, 3), n(22, 0, 1, 3));
        x.hand(3, 0, 12, 4);
        due("places()", x.places(), -1);
        x.hand(1, 0, 12, 4);
        due("places()", x.places(), 0);
        x = of(n(10, 0, 1, 0), n(22, 0, 1, 0));
        x.hand(3, 0, 12, 4);
        due("places()", x.places(), 0);
        x.hand(2, 0, 12, 4);
        due("places()", x.places(), 1);
    }

    private static void hours(FourHands x, int n, int slips, int... bars) {
        due("practice(" + n + ", -1)", x.practice(n, -1), slips);
        for (int i = 0; i < n; i++) due("practice(" + n + ", " + i + ")", x.practice(n, i), bars[i]);
        due("practice(" + n + ", " + n + ")", x.practice(n, n), -5);
    }

    private static void practice() {
        promise = 23;
        FourHands x = new FourHands();
        hours(x, 0, 0);
        hours(x, 6, 0, 0, 0, 0, 0, 0, 0);
        // SLIPS: BAR 0 has 1, BAR 1 has 1 and a CLASH that began in BAR 0: 5; BAR 7 has 2
        x = of(n(10, 7, 2, 0), n(30, 8, 1, 0), n(10, 63, 1, 1), n(15, 56, 1, 1), n(1, 1, 1, -1));
        due("clashes(-1, -1)", x.clashes(-1, -1), 1);
        hours(x, 0, 8);
        hours(x, 1, 6, 1);
        // 5 becomes 3, then 2, 1, 0; 1 becomes 0; 2 becomes 1, 0
        hours(x, 2, 5, 0, 1);
        hours(x, 3, 4, 0, 1, 1);
        hours(x, 4, 3, 0, 1, 1, 1);
        hours(x, 5, 2, 0, 1, 1, 1, 1);
        hours(x, 6, 1, 0, 1, 1, 1, 1, 7);
        due("practice(6, MAX)", x.practice(6, MAX), -5);
        due("practice(7, 0)", x.practice(7, 0), -10);
        due("practice(-1, 0)", x.practice(-1, 0), -10);
        due("practice(0, -2)", x.practice(0, -2), -10);
        due("status(0)", x.status(0), 3);
        // nothing to win any more: the first row all the same
        hours(of(n(10, 20, 1, 0)), 3, 0, 0, 0, 2);
    }

    private static void fraction(FourHands x, int n, int s, long above, long below) {
        due("breath(" + n + ", " + s + ")", x.breath(n, s), 1);
        due("part(0)", x.part(0), above);
        due("part(1)", x.part(1), below);
    }

    private static void breath() {
        promise = 24;
        FourHands x = new FourHands();
        fraction(x, 0, 0, 1, 1);
        fraction(x, 1, 0, 1, 2);
        fraction(x, 1, 1, 1, 1);
        fraction(x, 2, 1, 7, 9);
        fraction(x, 3, 1, 5, 8);
        fraction(x, 20, 0, 1, 21);
        fraction(x, 20, 19, 439, 441);
        fraction(x, 20, 20, 1, 1);
        fraction(x, 4, 1, 13, 25);
        due("breath(21, 0)", x.breath(21, 0), -2);
        due("breath(-1, 0)", x.breath(-1, 0), -2);
        due("breath(0, 21)", x.breath(0, 21), -2);
        due("breath(0, -1)", x.breath(0, -1), -2);
        due("part(0)", x.part(0), 13);
        due("part(1)", x.part(1), 25);
        due("status(0)", x.status(0), 4);
    }

    private static void heard() {
        promise = 25;
        FourHands x = of(n(10, 7, 2, 0), n(30, 8, 1, -1));
        due("heard(0, 9)", x.heard(0, 9), -1);
        due("heard(0, 0)", x.heard(0, 0), 9);
        due("heard(0, -1)", x.heard(0, -1), 0);
        due("heard(0, 3)", x.heard(0, 3), -1);
        due("heard(1, 3)", x.heard(1, 3), -1);
        long was = x.digest();
        due("heard(2, 3)", x.heard(2, 3), -10);
        due("heard(-1, 3)", x.heard(-1, 3), -10);
        due("heard(0, 10)", x.heard(0, 10), -10);
        due("heard(0, -2)", x.heard(0, -2), -10);
        due("digest()", x.digest(), was);
        due("status(0)", x.status(0), 4);
    }

    private static void late() {
        promise = 26;
        FourHands x = of(n(10, 5, 1, 0), n(20, 7, 1, 0), n(30, 9, 1, 1), n(40, 11, 1, 3), n(41, 11, 1, -1));
        due("late(), nothing was heard", x.late(), 15);
        x.heard(0, 0);
        due("late()", x.late(), 15);
        x.heard(1, 4);
        due("late()", x.late(), 1);
        x.heard(0, 4);
        due("late()", x.late(), 1);
        x.heard(0, 3);
        due("late(), not by the same", x.late(), 0);
        x.heard(1, 0);
        due("late(), not from some MOMENT on", x.late(), 0);
        x.heard(0, -1);
        due("late()", x.late(), 15);
        x.heard(2, 9);
        due("late()", x.late(), 2);
        x.heard(3, 9);
        due("late(), two HANDS", x.late(), 0);
        x.heard(2, 0);
        due("late()", x.late(), 8);
        x.heard(4, 1);
        due("late(), one that is left out", x.late(), 0);
        x.heard(3, -1);
        due("late(), one that is left out", x.late(), 0);
        x.heard(4, 0);
        due("late()", x.late(), 15);
        // in one MOMENT, one late, one not
        x = of(n(10, 5, 1, 2), n(20, 5, 1, 2));
        x.heard(0, 1);
        due("late()", x.late(), 4);
        x.heard(1, 0);
        due("late()", x.late(), 0);
    }

    private static void evening() {
        promise = 27;
        // SEED 0: X is 12345; by 65536 0, less than 1. Then 1406932606; 21468, by 100 68.
        FourHands x = of(n(10, 5, 2, 0), n(10, 7, 1, 1));
        long was = x.digest();
        due("evening(0, 0)", x.evening(0, 0), 0);
        due("evening(0, 1)", x.evening(0, 1), 1);
        due("evening(0, 68)", x.evening(0, 68), 1);
        due("evening(0, 69)", x.evening(0, 69), 0);
        due("evening(0, 100)", x.evening(0, 100), 0);
        due("digest(), nothing is changed", x.digest(), was);
        // 63 at most
        x = of(n(10, 62, 1, 0), n(10, 63, 1, 1));
        due("evening(0, 0)", x.evening(0, 0), 0);
        due("evening(5, 100)", x.evening(5, 100), 1);
        // a NOTE that is left out takes its turn
        x = of(n(1, 1, 1, -1), n(10, 5, 2, 0), n(10, 7, 1, 1));
        due("evening(0, 68)", x.evening(0, 68), 0);
        due("evening(0, 69)", x.evening(0, 69), 1);
        due("evening(999999, 100)", x.evening(999999, 100), 0);
        due("evening(-1, 0)", x.evening(-1, 0), -2);
        due("evening(1000000, 0)", x.evening(1000000, 0), -2);
        due("evening(0, -1)", x.evening(0, -1), -2);
        due("evening(0, 101)", x.evening(0, 101), -2);
        due("status(0)", x.status(0), 4);
    }

    private static void part() {
        promise = 28;
        FourHands x = new FourHands();
        due("part(0)", x.part(0), 0);
        due("part(1)", x.part(1), 1);
        x.breath(2, 1);
        due("part(0)", x.part(0), 7);
        due("part(1)", x.part(1), 9);
        due("part(2)", x.part(2), -2);
        due("part(-1)", x.part(-1), -2);
        due("status(0)", x.status(0), 2);
    }

    private static void imageAndFrom() {
        promise = 29;
        FourHands x = of(n(10, 7, 2, 0), n(30, 8, 1, 0));
        x.hand(1, 4, 3, 2);
        x.pedal(3, 9);
        x.heard(1, 5);
        x.give(0, 1);
        due("image(2)", x.image(2), -2);
        due("image(-1)", x.image(-1), -2);
        due("image(0)", x.image(0), 1);
        long was = x.digest();
        x.hand(1, 0, 9, 4);
        x.pedal(0, 0);
        x.heard(1, 6);
        x.give(1, 3);
        x.give(1, 2);
        due("image(1)", x.image(1), 1);
        long then = x.digest();
        promise = 30;
        due("from(2)", x.from(2), -2);
        due("from(-1)", x.from(-1), -2);
        due("from(0)", x.from(0), 1);
        due("digest()", x.digest(), was);
        due("undo(), as it was kept", x.undo(), 1);
        due("of(0, 5)", x.of(0, 5), 0);
        due("of(1, 5)", x.of(1, 5), 0);
        due("undo()", x.undo(), -3);
        due("from(1)", x.from(1), 1);
        due("digest()", x.digest(), then);
        x.note(1, 1, 1, 1, 1, 1);
        due("from(1), it is kept still", x.from(1), 1);
        due("digest()", x.digest(), then);
        due("from(0)", x.from(0), 1);
        due("digest()", x.digest(), was);
        // THE TEXT, THE FRACTION, STATUS stay
        typed(x, "xyz");
        x.breath(2, 1);
        due("from(1)", x.from(1), 1);
        due("count(5)", x.count(5), 3);
        due("part(1)", x.part(1), 9);
        due("status(0)", x.status(0), 4);
        due("status(1)", x.status(1), 1);
        x = new FourHands();
        x.image(0);
        due("from(1), none was kept", x.from(1), -3);
        due("status(1)", x.status(1), 1);
        typed(x, "piece 5;");
        x.read();
        due("from(0), an IMAGE stays when a PIECE is read", x.from(0), 1);
        due("count(2)", x.count(2), 2);
    }

    private static void status() {
        promise = 31;
        FourHands x = new FourHands();
        due("status(3)", x.status(3), -1);
        due("status(-1)", x.status(-1), -1);
        due("status(0)", x.status(0), 2);
        x.undo();
        x.from(0);
        due("status(1)", x.status(1), 2);
        for (int i = 0; i < 12; i++) x.note(i, 1, 1, 0, 0, -1);
        x.note(1, 1, 1, 0, 0, 0);
        x.note(1, 1, 1, 0, 0, 0);
        due("status(2)", x.status(2), 2);
        // answers that are no refusals
        x.read();
        x.clash(0, 1);
        x.clashes(0, 5);
        x.given(2, 5);
        x.fingers(0, 5);
        x.practice(1, 5);
        x.heard(0, 1);
        due("status(0)", x.status(0), 2);
        due("status(1)", x.status(1), 2);
        due("status(2)", x.status(2), 2);
        // refusals with answers of their own count, too
        x.of(0, 9);
        x.clashes(9, 0);
        x.given(9, 0);
        x.fingers(9, 0);
        x.practice(9, 0);
        x.heard(0, 99);
        due("status(0)", x.status(0), 8);
        for (int i = 0; i < 9; i++) x.give(i, 0);
        x.fingers(0, 0);
        due("status(1)", x.status(1), 3);
    }

    private static void count() {
        promise = 32;
        FourHands x = of(n(10, 7, 2, 0), n(30, 8, 1, -1), n(30, 8, 1, 2));
        x.pedal(10, 21);
        x.give(0, 1);
        x.give(0, 2);
        typed(x, "piece");
        int[] want = {3, 2, 2, 11, 2, 5};
        for (int w = 0; w < 6; w++) due("count(" + w + ")", x.count(w), want[w]);
        due("count(6)", x.count(6), -2);
        due("count(-1)", x.count(-1), -2);
        due("status(0)", x.status(0), 2);
    }

    private static long fold(long... values) {
        long h = 877;
        for (long v : values) h = 31 * h + v;
        return h;
    }

    private static void digest() {
        promise = 33;
        FourHands x = new FourHands();
        due("digest()", x.digest(), fold(0, 0, 2, 0, 0, 0, 0, 9, 4, 0, 9, 4, 0, 9, 4, 0, 9, 4, 0, 0, 0, 1));
        x.note(10, 7, 2, 0, 3, 0);
        x.note(30, 8, 1, 1, 4, -1);
        x.hand(1, 3, 8, 7);
        x.hand(3, 5, 1, 9);
        x.pedal(4, 14);
        x.heard(1, 6);
        x.give(0, 3);
        x.breath(2, 1);
        typed(x, "abc");
        due("digest()", x.digest(), fold(2, 1, 2, 10, 1, 3, 0, 9, 4, 3, 8, 7, 0, 9, 4, 5, 1, 9, 4, 14,
                10, 7, 2, 0, 3, 3, -1, 30, 8, 1, 1, 4, -1, 6, 7, 9));
        x.image(0);
        x.status(9);
        due("digest(), no IMAGES, no STATUS", x.digest(), fold(2, 1, 2, 10, 1, 3, 0, 9, 4, 3, 8, 7, 0, 9, 4, 5, 1, 9, 4, 14,
                10, 7, 2, 0, 3, 3, -1, 30, 8, 1, 1, 4, -1, 6, 7, 9));
    }
}
