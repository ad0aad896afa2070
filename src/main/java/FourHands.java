import java.util.Arrays;

/** Four hands on one piano: she above (HANDS 0, 1), he below (HANDS 2, 3). See README.md. */
public final class FourHands {
    public static final int NONE = -1, BAD = -2, NO = -3, FULL = -4;

    private static final int KEYS = 48, MOMENTS = 64, HANDS = 4, NOTES = 12, KINDS = 6;
    private static final int LONGEST = 8, LOUDEST = 9, FURTHEST = 15, FASTEST = 9, LATEST = 9;
    private static final int FIRST_REACH = 9, FIRST_SPEED = 4, FIRST_NEAR = 2, MOST_NEAR = 9;
    private static final int QUICK = 1, RINGED = 2, STIFF = 3, LIGHT = 4, HEAVY = 5;
    private static final int WANTED = 0, AGAIN = 1, STRETCH = 2, ELBOW = 3, CROSSED = 4, LATE = 5;
    private static final int PAIRS = 66, UNDOS = 10, IMAGES = 2, BYTES = 150, HEART = 9;
    private static final int FINGERS = 5, FINGERED = 8, LONGEST_PEDAL = 16, MOST_GIVEN = 2;
    private static final int BARS = 8, BAR = 8, HOURS = 6, BREATHS = 20;
    private static final int SEEDS = 999999, CHANCES = 100;

    /** Where a call may rightly answer NONE or BAD's own number, these stand for the refusals. */
    private static final int BAD_INDEX = -10, TOO_MANY = -20, NOT_SO_MANY = -5;

    private final Piece now = new Piece();
    /** Holds what is only tried: a piece being read, an evening, changed places. */
    private final Piece spare = new Piece();
    private final Piece[] images = {new Piece(), new Piece()};
    private final Script script = new Script();
    private final Handing handing = new Handing();
    private final Fingering fingering = new Fingering();
    private final Pedalling pedalling = new Pedalling();
    private final Practising practising = new Practising();
    /** Which IMAGES are kept, as bits. */
    private int kept;
    private long above;
    private long below = 1;
    private int bads;
    private int noes;
    private int fulls;

    public FourHands() {
    }

    // ---- a piece

    public int piece(int near) {
        if (!within(near, 0, MOST_NEAR)) {
            return refuseBad(BAD);
        }
        int had = now.notes;
        now.begin(near);
        forgetTheRest();
        return had;
    }

    public int hand(int hand, int kind, int reach, int speed) {
        if (!within(hand, 0, HANDS - 1) || !within(kind, 0, KINDS - 1)
                || !within(reach, 0, FURTHEST) || !within(speed, 1, FASTEST)) {
            return refuseBad(BAD);
        }
        int was = now.kinds[hand];
        now.setHand(hand, kind, reach, speed);
        return was;
    }

    public int note(int key, int moment, int length, int part, int loud, int hand) {
        if (!within(key, 0, KEYS - 1) || !within(moment, 0, MOMENTS - 1)
                || !within(length, 1, longestFrom(moment)) || !within(part, 0, 1)
                || !within(loud, 0, LOUDEST) || !within(hand, NONE, HANDS - 1)) {
            return refuseBad(BAD);
        }
        if (now.notes >= NOTES) {
            return refuseFull();
        }
        now.addNote(key, moment, length, part, loud, hand);
        return now.notes - 1;
    }

    public int type(int c) {
        if (!within(c, 0, 127)) {
            return refuseBad(BAD);
        }
        if (script.length >= BYTES) {
            return refuseFull();
        }
        script.append(c);
        return script.length;
    }

    public int clear() {
        int had = script.length;
        script.length = 0;
        return had;
    }

    public int read() {
        int items = script.readInto(spare);
        if (items >= 0) {
            now.copyFrom(spare);
        }
        return items;
    }

    // ---- who plays what

    public int give(int note, int hand) {
        if (!isNote(note) || !within(hand, NONE, HANDS - 1)) {
            return refuseBad(BAD);
        }
        now.pass(note, hand);
        return now.clashCount();
    }

    public int undo() {
        if (now.undos <= 0) {
            return refuseNo(NO);
        }
        now.takeBack();
        return now.clashCount();
    }

    public int of(int note, int what) {
        if (!isNote(note)) {
            return refuseBad(BAD_INDEX);
        }
        switch (what) {
            case 0: return now.keys[note];
            case 1: return now.moments[note];
            case 2: return now.lengths[note];
            case 3: return now.parts[note];
            case 4: return now.louds[note];
            case 5: return now.hands[note];
            default: return refuseBad(BAD_INDEX);
        }
    }

    public int about(int hand, int what) {
        if (!within(hand, 0, HANDS - 1)) {
            return refuseBad(BAD);
        }
        switch (what) {
            case 0: return now.kinds[hand];
            case 1: return now.reaches(hand);
            case 2: return now.moves(hand);
            case 3: return now.keepsOff(hand);
            case 4: return now.notesOf(hand);
            default: return refuseBad(BAD);
        }
    }

    public int clash(int a, int b) {
        if (!isNote(a) || !isNote(b) || a == b) {
            return refuseBad(BAD);
        }
        return now.sortOf(a, b);
    }

    public int clashes(int sort, int i) {
        if (!within(sort, NONE, LATE) || i < NONE) {
            return refuseBad(BAD_INDEX);
        }
        int found = 0;
        for (int a = 0; a < now.notes; a++) {
            for (int b = a + 1; b < now.notes; b++) {
                int is = now.sortOf(a, b);
                if (is == NONE || (sort != NONE && is != sort)) {
                    continue;
                }
                if (found == i) {
                    return 100 * a + b;
                }
                found++;
            }
        }
        return i == NONE ? found : NOT_SO_MANY;
    }

    // ---- edits

    public int given(int m, int i) {
        if (!within(m, 0, MOST_GIVEN) || i < NONE) {
            return refuseBad(BAD_INDEX);
        }
        handing.solve(now, m);
        if (i == NONE) {
            return handing.fewest;
        }
        return i < handing.changes && i < MOST_GIVEN ? handing.row[i] : NOT_SO_MANY;
    }

    public int out() {
        int best = (1 << now.notes) - 1;
        int fewest = now.notes;
        now.findPartners();
        for (int left = 0; left < 1 << now.notes; left++) {
            int many = Integer.bitCount(left);
            if (many < fewest && now.isQuietWithout(left)) {
                best = left;
                fewest = many;
            }
        }
        return best;
    }

    public int fingers(int hand, int i) {
        if (!within(hand, 0, HANDS - 1) || i < NONE) {
            return refuseBad(BAD_INDEX);
        }
        if (Integer.bitCount(now.notesOf(hand)) > FINGERED) {
            return refuseNo(TOO_MANY);
        }
        fingering.solve(now, hand);
        if (i == NONE) {
            return fingering.cost;
        }
        return i < fingering.many && i < FINGERED ? fingering.row[i] : NOT_SO_MANY;
    }

    // ---- pedal, pages

    public int pedal(int from, int to) {
        if (!within(to, 0, MOMENTS) || !within(from, 0, to)) {
            return refuseBad(BAD);
        }
        now.pedalFrom = from;
        now.pedalTo = to;
        return 1;
    }

    public int blurs(int what) {
        if (!within(what, 0, 1)) {
            return refuseBad(BAD);
        }
        pedalling.gather(now);
        if (what == 0) {
            return pedalling.blurred(now.pedalFrom, now.pedalTo);
        }
        return pedalling.joined(now.pedalFrom, now.pedalTo);
    }

    public int best(int what) {
        if (!within(what, 0, 1)) {
            return refuseBad(BAD);
        }
        pedalling.gather(now);
        pedalling.findBest();
        return what == 0 ? pedalling.most : 100 * pedalling.bestFrom + pedalling.bestTo;
    }

    public int turns(int moment, int h, int person) {
        if (!within(moment, 0, MOMENTS - 1) || !within(h, 0, HEART) || !within(person, NONE, 1)) {
            return refuseBad(BAD);
        }
        for (int away = 0; away <= h; away++) {
            int turn = freeHand(moment - away, person);
            if (turn == NONE) {
                turn = freeHand(moment + away, person);
            }
            if (turn != NONE) {
                return turn;
            }
        }
        return NONE;
    }

    public long covered() {
        long bits = 0;
        for (int moment = 0; moment < MOMENTS; moment++) {
            if (now.isCovered(moment)) {
                bits |= 1L << moment;
            }
        }
        return bits;
    }

    public int places() {
        spare.copyFrom(now);
        for (int n = 0; n < spare.notes; n++) {
            if (spare.hands[n] != NONE) {
                spare.hands[n] = (spare.hands[n] + 2) % HANDS;
            }
        }
        return now.clashCount() - spare.clashCount();
    }

    // ---- practice, slips

    public int practice(int n, int i) {
        if (!within(n, 0, HOURS) || i < NONE) {
            return refuseBad(BAD_INDEX);
        }
        practising.solve(now, n);
        if (i == NONE) {
            return practising.slips;
        }
        return i < n ? practising.row[i] : NOT_SO_MANY;
    }

    public int breath(int n, int s) {
        if (!within(n, 0, BREATHS) || !within(s, 0, BREATHS)) {
            return refuseBad(BAD);
        }
        int near = 0;
        for (int hers = 0; hers <= n; hers++) {
            for (int his = 0; his <= n; his++) {
                if (Math.abs(hers - his) <= s) {
                    near++;
                }
            }
        }
        setFraction(near, (n + 1) * (n + 1));
        return 1;
    }

    public int heard(int note, int late) {
        if (!isNote(note) || !within(late, NONE, LATEST)) {
            return refuseBad(BAD_INDEX);
        }
        int was = now.lates[note];
        now.lates[note] = late;
        return was;
    }

    public int late() {
        int bits = 0;
        for (int hand = 0; hand < HANDS; hand++) {
            if (now.isExplainedBy(hand)) {
                bits |= 1 << hand;
            }
        }
        return bits;
    }

    public int evening(int seed, int w) {
        if (!within(seed, 0, SEEDS) || !within(w, 0, CHANCES)) {
            return refuseBad(BAD);
        }
        spare.copyFrom(now);
        long x = seed;
        for (int n = 0; n < spare.notes; n++) {
            x = (x * 1103515245L + 12345L) % 2147483648L;
            if (x / 65536 % 100 < w) {
                spare.moments[n] = Math.min(spare.moments[n] + 1, MOMENTS - 1);
            }
        }
        return spare.clashCount();
    }

    // ---- what there is

    public long part(int what) {
        if (!within(what, 0, 1)) {
            return refuseBad(BAD);
        }
        return what == 0 ? above : below;
    }

    public int image(int i) {
        if (!within(i, 0, IMAGES - 1)) {
            return refuseBad(BAD);
        }
        images[i].copyFrom(now);
        kept |= 1 << i;
        return 1;
    }

    public int from(int i) {
        if (!within(i, 0, IMAGES - 1)) {
            return refuseBad(BAD);
        }
        if ((kept >> i & 1) == 0) {
            return refuseNo(NO);
        }
        now.copyFrom(images[i]);
        return 1;
    }

    public int status(int what) {
        switch (what) {
            case 0: return bads;
            case 1: return noes;
            case 2: return fulls;
            default: return refuseBad(NONE);
        }
    }

    public int count(int what) {
        return within(what, 0, 5) ? howMany(what) : refuseBad(BAD);
    }

    public long digest() {
        long h = 877;
        for (int what = 0; what <= 5; what++) {
            h = 31 * h + howMany(what);
        }
        h = now.digestFrom(h);
        h = 31 * h + above;
        return 31 * h + below;
    }

    // ---- what the calls share

    private static boolean within(int value, int low, int high) {
        return value >= low && value <= high;
    }

    /** A NOTE may not sound behind the last MOMENT. */
    private static int longestFrom(int moment) {
        return Math.min(LONGEST, MOMENTS - moment);
    }

    private boolean isNote(int note) {
        return within(note, 0, now.notes - 1);
    }

    private int refuseBad(int answer) {
        bads++;
        return answer;
    }

    private int refuseNo(int answer) {
        noes++;
        return answer;
    }

    private int refuseFull() {
        fulls++;
        return FULL;
    }

    /** "All else as at first" names no exception: IMAGES, THE TEXT, THE FRACTION, STATUS go too. */
    private void forgetTheRest() {
        kept = 0;
        script.length = 0;
        above = 0;
        below = 1;
        bads = 0;
        noes = 0;
        fulls = 0;
    }

    private int freeHand(int moment, int person) {
        if (!within(moment, 0, MOMENTS - 1)) {
            return NONE;
        }
        int first = person == NONE ? 0 : 2 * person;
        int last = person == NONE ? HANDS - 1 : first + 1;
        for (int hand = first; hand <= last; hand++) {
            if (now.isFree(hand, moment)) {
                return 10 * moment + hand;
            }
        }
        return NONE;
    }

    private void setFraction(int part, int whole) {
        int a = whole;
        int b = part;
        for (int step = 0; step < 64 && b != 0; step++) {
            int rest = a % b;
            a = b;
            b = rest;
        }
        if (a > 0) {
            above = part / a;
            below = whole / a;
        }
    }

    private int howMany(int what) {
        switch (what) {
            case 0: return now.notes;
            case 1: return now.playedCount();
            case 2: return now.near;
            case 3: return now.pedalTo - now.pedalFrom;
            case 4: return now.undos;
            default: return script.length;
        }
    }

    /** What an IMAGE keeps: NEAR, HANDS, NOTES, PEDAL, what was HEARD and what may be undone. */
    private static final class Piece {
        int near = FIRST_NEAR;
        int notes;
        final int[] keys = new int[NOTES];
        final int[] moments = new int[NOTES];
        final int[] lengths = new int[NOTES];
        final int[] parts = new int[NOTES];
        final int[] louds = new int[NOTES];
        final int[] hands = new int[NOTES];
        final int[] lates = new int[NOTES];
        final int[] kinds = new int[HANDS];
        final int[] reach = new int[HANDS];
        final int[] speed = new int[HANDS];
        int pedalFrom;
        int pedalTo;
        int undos;
        final int[] undoNotes = new int[UNDOS];
        final int[] undoHands = new int[UNDOS];
        /** For each NOTE the bits of later ones it clashes with; only as fresh as findPartners. */
        final int[] partners = new int[NOTES];

        Piece() {
            Arrays.fill(reach, FIRST_REACH);
            Arrays.fill(speed, FIRST_SPEED);
        }

        void begin(int newNear) {
            near = newNear;
            notes = 0;
            Arrays.fill(kinds, 0);
            Arrays.fill(reach, FIRST_REACH);
            Arrays.fill(speed, FIRST_SPEED);
            pedalFrom = 0;
            pedalTo = 0;
            undos = 0;
        }

        void copyFrom(Piece other) {
            near = other.near;
            notes = other.notes;
            System.arraycopy(other.keys, 0, keys, 0, NOTES);
            System.arraycopy(other.moments, 0, moments, 0, NOTES);
            System.arraycopy(other.lengths, 0, lengths, 0, NOTES);
            System.arraycopy(other.parts, 0, parts, 0, NOTES);
            System.arraycopy(other.louds, 0, louds, 0, NOTES);
            System.arraycopy(other.hands, 0, hands, 0, NOTES);
            System.arraycopy(other.lates, 0, lates, 0, NOTES);
            System.arraycopy(other.kinds, 0, kinds, 0, HANDS);
            System.arraycopy(other.reach, 0, reach, 0, HANDS);
            System.arraycopy(other.speed, 0, speed, 0, HANDS);
            pedalFrom = other.pedalFrom;
            pedalTo = other.pedalTo;
            undos = other.undos;
            System.arraycopy(other.undoNotes, 0, undoNotes, 0, UNDOS);
            System.arraycopy(other.undoHands, 0, undoHands, 0, UNDOS);
        }

        void setHand(int hand, int kind, int newReach, int newSpeed) {
            kinds[hand] = kind;
            reach[hand] = newReach;
            speed[hand] = newSpeed;
        }

        void addNote(int key, int moment, int length, int part, int loud, int hand) {
            if (notes >= NOTES) {
                return;
            }
            keys[notes] = key;
            moments[notes] = moment;
            lengths[notes] = length;
            parts[notes] = part;
            louds[notes] = loud;
            hands[notes] = hand;
            lates[notes] = NONE;
            notes++;
            undos = 0;
        }

        /** Only the one HAND is kept to go back to: nothing else changes HANDS of NOTES meanwhile. */
        void pass(int note, int hand) {
            if (undos >= UNDOS) {
                System.arraycopy(undoNotes, 1, undoNotes, 0, UNDOS - 1);
                System.arraycopy(undoHands, 1, undoHands, 0, UNDOS - 1);
                undos = UNDOS - 1;
            }
            undoNotes[undos] = note;
            undoHands[undos] = hands[note];
            undos++;
            hands[note] = hand;
        }

        void takeBack() {
            if (undos <= 0) {
                return;
            }
            undos--;
            hands[undoNotes[undos]] = undoHands[undos];
        }

        boolean isPlayed(int note) {
            return hands[note] != NONE;
        }

        int playedCount() {
            int played = 0;
            for (int n = 0; n < notes; n++) {
                if (isPlayed(n)) {
                    played++;
                }
            }
            return played;
        }

        int notesOf(int hand) {
            int bits = 0;
            for (int n = 0; n < notes; n++) {
                if (hands[n] == hand) {
                    bits |= 1 << n;
                }
            }
            return bits;
        }

        private boolean isStiff(int hand) {
            return kinds[hand] == STIFF || kinds[hand] == HEAVY;
        }

        private boolean isQuick(int hand) {
            return kinds[hand] == QUICK || kinds[hand] == LIGHT;
        }

        int reaches(int hand) {
            return isStiff(hand) ? Math.max(reach[hand] - 2, 0) : reach[hand];
        }

        int moves(int hand) {
            if (isQuick(hand)) {
                return 2 * speed[hand];
            }
            return isStiff(hand) ? Math.max(speed[hand] / 2, 1) : speed[hand];
        }

        int keepsOff(int hand) {
            switch (kinds[hand]) {
                case RINGED: return near + 1;
                case LIGHT: return near / 2;
                case HEAVY: return 2 * near;
                default: return near;
            }
        }

        int sortOf(int i, int j) {
            return sortIf(i, hands[i], j, hands[j]);
        }

        /** The sort of CLASH, did these HANDS play the two NOTES. */
        int sortIf(int i, int handI, int j, int handJ) {
            if (handI == NONE || handJ == NONE) {
                return NONE;
            }
            int apart = Math.abs(keys[i] - keys[j]);
            int between = Math.max(moments[i] - moments[j] - lengths[j],
                    moments[j] - moments[i] - lengths[i]);
            if (between >= 0) {
                return handI == handJ && apart > moves(handI) * between ? LATE : NONE;
            }
            if (apart == 0) {
                return moments[i] == moments[j] ? WANTED : AGAIN;
            }
            if (handI == handJ) {
                return apart > reaches(handI) ? STRETCH : NONE;
            }
            if (handI / 2 == handJ / 2) {
                return NONE;
            }
            if (apart < Math.max(keepsOff(handI), keepsOff(handJ))) {
                return ELBOW;
            }
            int hers = handI < handJ ? keys[i] : keys[j];
            int his = handI < handJ ? keys[j] : keys[i];
            return hers < his ? CROSSED : NONE;
        }

        int clashCount() {
            int found = 0;
            for (int i = 0; i < notes; i++) {
                for (int j = i + 1; j < notes; j++) {
                    if (sortOf(i, j) != NONE) {
                        found++;
                    }
                }
            }
            return found;
        }

        void findPartners() {
            Arrays.fill(partners, 0);
            for (int i = 0; i < notes; i++) {
                for (int j = i + 1; j < notes; j++) {
                    if (sortOf(i, j) != NONE) {
                        partners[i] |= 1 << j;
                    }
                }
            }
        }

        boolean isQuietWithout(int left) {
            for (int n = 0; n < notes; n++) {
                if ((left >> n & 1) == 0 && (partners[n] & ~left) != 0) {
                    return false;
                }
            }
            return true;
        }

        boolean sounds(int note, int moment) {
            return isPlayed(note) && moment >= moments[note]
                    && moment < moments[note] + lengths[note];
        }

        boolean isFree(int hand, int moment) {
            for (int n = 0; n < notes; n++) {
                if (hands[n] == hand && sounds(n, moment)) {
                    return false;
                }
            }
            return true;
        }

        boolean isCovered(int moment) {
            boolean tune = false;
            int more = 0;
            for (int n = 0; n < notes; n++) {
                if (sounds(n, moment)) {
                    tune |= parts[n] == 0;
                    more += parts[n] == 0 ? -louds[n] : louds[n];
                }
            }
            return tune && more > 0;
        }

        /**
         * Whether the HAND alone can have made all that was HEARD: its NOTES that came late must
         * share one lateness and begin behind all of its NOTES that came in time.
         */
        boolean isExplainedBy(int hand) {
            int by = 0;
            int lastInTime = NONE;
            int firstLate = MOMENTS;
            for (int n = 0; n < notes; n++) {
                if (lates[n] == NONE) {
                    continue;
                }
                if (lates[n] == 0) {
                    if (hands[n] == hand) {
                        lastInTime = Math.max(lastInTime, moments[n]);
                    }
                    continue;
                }
                if (hands[n] != hand || (by != 0 && by != lates[n])) {
                    return false;
                }
                by = lates[n];
                firstLate = Math.min(firstLate, moments[n]);
            }
            return by == 0 || lastInTime < firstLate;
        }

        long digestFrom(long start) {
            long h = start;
            for (int hand = 0; hand < HANDS; hand++) {
                h = 31 * h + kinds[hand];
                h = 31 * h + reach[hand];
                h = 31 * h + speed[hand];
            }
            h = 31 * h + pedalFrom;
            h = 31 * h + pedalTo;
            for (int n = 0; n < notes; n++) {
                h = 31 * h + keys[n];
                h = 31 * h + moments[n];
                h = 31 * h + lengths[n];
                h = 31 * h + parts[n];
                h = 31 * h + louds[n];
                h = 31 * h + hands[n];
                h = 31 * h + lates[n];
            }
            return h;
        }
    }

    /** THE TEXT, and how a PIECE is read from it. */
    private static final class Script {
        private static final int END = 0, WORD = 1, NUMBER = 2, STOP = 3, STRANGE = 4;
        private static final String PIECE_WORD = "piece", HAND_WORD = "hand", NOTE_WORD = "note";
        private static final int LEFT_OUT = 4, MOST_NUMBERS = 6;

        final int[] bytes = new int[BYTES];
        int length;
        private int next;
        private int place;
        private int sort;
        private final int[] numbers = new int[MOST_NUMBERS];
        private int told;

        void append(int c) {
            if (length < BYTES) {
                bytes[length] = c;
                length++;
            }
        }

        /** How many ITEMS were read, or -10 less the FAULT (then the PIECE is half made). */
        int readInto(Piece piece) {
            next = 0;
            for (int items = 0; items <= BYTES; items++) {
                takeToken();
                if (sort == END && items > 0) {
                    return items;
                }
                if (!readItem(piece, items == 0)) {
                    break;
                }
            }
            return BAD_INDEX - place;
        }

        private boolean readItem(Piece piece, boolean first) {
            if (first != isWord(PIECE_WORD)) {
                return false;
            }
            told = 0;
            if (first) {
                return readPiece(piece);
            }
            if (isWord(HAND_WORD)) {
                return readHand(piece);
            }
            return isWord(NOTE_WORD) && piece.notes < NOTES && readNote(piece);
        }

        private boolean readPiece(Piece piece) {
            if (!takeNumber(0, MOST_NEAR) || !takeStop()) {
                return false;
            }
            piece.begin(numbers[0]);
            return true;
        }

        private boolean readHand(Piece piece) {
            if (!takeNumber(0, HANDS - 1) || !takeNumber(0, KINDS - 1)
                    || !takeNumber(0, FURTHEST) || !takeNumber(1, FASTEST) || !takeStop()) {
                return false;
            }
            piece.setHand(numbers[0], numbers[1], numbers[2], numbers[3]);
            return true;
        }

        private boolean readNote(Piece piece) {
            if (!takeNumber(0, KEYS - 1) || !takeNumber(0, MOMENTS - 1)
                    || !takeNumber(1, longestFrom(numbers[1])) || !takeNumber(0, 1)
                    || !takeNumber(0, LOUDEST) || !takeNumber(0, LEFT_OUT) || !takeStop()) {
                return false;
            }
            int hand = numbers[5] == LEFT_OUT ? NONE : numbers[5];
            piece.addNote(numbers[0], numbers[1], numbers[2], numbers[3], numbers[4], hand);
            return true;
        }

        private boolean takeNumber(int low, int high) {
            takeToken();
            int value = numberValue();
            if (!within(value, low, high) || told >= MOST_NUMBERS) {
                return false;
            }
            numbers[told] = value;
            told++;
            return true;
        }

        private boolean takeStop() {
            takeToken();
            return sort == STOP;
        }

        /** A TOKEN goes on as far as its sort does, but for ; and bytes that begin none. */
        private void takeToken() {
            while (next < length && bytes[next] == ' ') {
                next++;
            }
            place = next;
            sort = sortAt(next);
            if (sort == STOP || sort == STRANGE) {
                next++;
            }
            while ((sort == WORD || sort == NUMBER) && next < length && sortAt(next) == sort) {
                next++;
            }
        }

        private int sortAt(int at) {
            if (at < 0 || at >= length) {
                return END;
            }
            int c = bytes[at];
            if (c >= 'a' && c <= 'z') {
                return WORD;
            }
            if (c >= '0' && c <= '9') {
                return NUMBER;
            }
            return c == ';' ? STOP : STRANGE;
        }

        private boolean isWord(String word) {
            if (sort != WORD || next - place != word.length()) {
                return false;
            }
            for (int i = 0; i < word.length(); i++) {
                if (bytes[place + i] != word.charAt(i)) {
                    return false;
                }
            }
            return true;
        }

        /** NONE is within no bounds: so are a TOKEN that is no number, and one of three figures. */
        private int numberValue() {
            if (sort != NUMBER || next - place > 2) {
                return NONE;
            }
            int value = 0;
            for (int at = place; at < next; at++) {
                value = 10 * value + bytes[at] - '0';
            }
            return value;
        }
    }

    /** GIVEN: which few NOTES other HANDS should play. */
    private static final class Handing {
        int fewest;
        int changes;
        final int[] row = new int[MOST_GIVEN];
        private int all;
        /** For NOTE and HAND: with how many other NOTES, as they are, that would clash. */
        private final int[] with = new int[NOTES * HANDS];

        /**
         * One change is tried ahead of two, and rows in their order, so that only a better one
         * takes the place of one.
         */
        void solve(Piece piece, int m) {
            all = piece.clashCount();
            fewest = all;
            changes = 0;
            countAll(piece);
            for (int many = 1; many <= m; many++) {
                for (int n = 0; n < piece.notes; n++) {
                    for (int hand = 0; hand < HANDS; hand++) {
                        if (isChange(piece, n, hand)) {
                            tryRows(piece, n, hand, many);
                        }
                    }
                }
            }
        }

        private void countAll(Piece piece) {
            for (int n = 0; n < piece.notes; n++) {
                for (int hand = 0; hand < HANDS; hand++) {
                    with[n * HANDS + hand] = countWith(piece, n, hand);
                }
            }
        }

        private int countWith(Piece piece, int note, int hand) {
            int found = 0;
            for (int n = 0; n < piece.notes; n++) {
                if (n != note && piece.sortIf(note, hand, n, piece.hands[n]) != NONE) {
                    found++;
                }
            }
            return found;
        }

        private boolean isChange(Piece piece, int note, int hand) {
            return piece.isPlayed(note) && piece.hands[note] != hand;
        }

        /** How many more clash by one change; only for a NOTE that is played. */
        private int moreBy(Piece piece, int note, int hand) {
            return with[note * HANDS + hand] - with[note * HANDS + piece.hands[note]];
        }

        private void tryRows(Piece piece, int a, int handA, int many) {
            int then = all + moreBy(piece, a, handA);
            if (many == 1) {
                keepIfFewer(then, 1, 10 * a + handA, 0);
                return;
            }
            for (int b = a + 1; b < piece.notes; b++) {
                for (int handB = 0; handB < HANDS; handB++) {
                    if (isChange(piece, b, handB)) {
                        int both = moreBy(piece, b, handB) + pairMore(piece, a, handA, b, handB);
                        keepIfFewer(then + both, 2, 10 * a + handA, 10 * b + handB);
                    }
                }
            }
        }

        private void keepIfFewer(int then, int many, int first, int second) {
            if (then < fewest) {
                fewest = then;
                changes = many;
                row[0] = first;
                row[1] = second;
            }
        }

        /** The two changes were each counted against the other NOTE as it was: this sets it right. */
        private int pairMore(Piece piece, int a, int handA, int b, int handB) {
            int more = 0;
            if (piece.sortIf(a, handA, b, handB) != NONE) {
                more++;
            }
            if (piece.sortIf(a, piece.hands[a], b, piece.hands[b]) != NONE) {
                more++;
            }
            if (piece.sortIf(a, handA, b, piece.hands[b]) != NONE) {
                more--;
            }
            if (piece.sortIf(a, piece.hands[a], b, handB) != NONE) {
                more--;
            }
            return more;
        }
    }

    /** FINGERS of one HAND. */
    private static final class Fingering {
        int many;
        int cost;
        final int[] row = new int[FINGERED];
        private final int[] order = new int[FINGERED];
        /** For place in the order and finger: the least cost from there to the end. */
        private final int[] least = new int[FINGERED * FINGERS];

        void solve(Piece piece, int hand) {
            sortNotes(piece, hand);
            cost = 0;
            if (many == 0) {
                return;
            }
            for (int place = many - 1; place >= 0; place--) {
                for (int finger = 0; finger < FINGERS; finger++) {
                    least[place * FINGERS + finger] = leastFrom(piece, place, finger);
                }
            }
            row[0] = 0;
            for (int finger = 1; finger < FINGERS; finger++) {
                if (least[finger] < least[row[0]]) {
                    row[0] = finger;
                }
            }
            cost = least[row[0]];
            for (int place = 1; place < many; place++) {
                row[place] = nextFinger(piece, place - 1, row[place - 1]);
            }
        }

        private void sortNotes(Piece piece, int hand) {
            many = 0;
            for (int n = 0; n < piece.notes && many < FINGERED; n++) {
                if (piece.hands[n] != hand) {
                    continue;
                }
                int place = many;
                while (place > 0 && isAhead(piece, n, order[place - 1])) {
                    order[place] = order[place - 1];
                    place--;
                }
                order[place] = n;
                many++;
            }
        }

        private boolean isAhead(Piece piece, int a, int b) {
            if (piece.moments[a] != piece.moments[b]) {
                return piece.moments[a] < piece.moments[b];
            }
            return piece.keys[a] < piece.keys[b];
        }

        private int leastFrom(Piece piece, int place, int finger) {
            if (place + 1 >= many) {
                return 0;
            }
            return costBy(piece, place, finger, nextFinger(piece, place, finger));
        }

        /** The first finger that is best for the NOTE behind this place. */
        private int nextFinger(Piece piece, int place, int finger) {
            int best = 0;
            for (int then = 1; then < FINGERS; then++) {
                if (costBy(piece, place, finger, then) < costBy(piece, place, finger, best)) {
                    best = then;
                }
            }
            return best;
        }

        /** The least cost from this place on, if the fingers here and behind it are these. */
        private int costBy(Piece piece, int place, int finger, int then) {
            int up = piece.keys[order[place + 1]] - piece.keys[order[place]];
            int differ = Math.abs(up - (then - finger));
            int same = finger == then && up != 0 ? 3 : 0;
            return differ + same + least[(place + 1) * FINGERS + then];
        }
    }

    /** What the PEDAL would join and blur, and where it is best. */
    private static final class Pedalling {
        int most;
        int bestFrom;
        int bestTo;
        /** The last MOMENTS of NOTES behind which another one begins at once. */
        private final int[] ends = new int[NOTES];
        private int endCount;
        /** Of pairs with KEYS 1 or 2 apart: the MOMENTS in which the earlier and the later begin. */
        private final int[] earlier = new int[PAIRS];
        private final int[] later = new int[PAIRS];
        private int pairCount;

        void gather(Piece piece) {
            gatherEnds(piece);
            gatherPairs(piece);
        }

        private void gatherEnds(Piece piece) {
            long begins = 0;
            for (int n = 0; n < piece.notes; n++) {
                if (piece.isPlayed(n)) {
                    begins |= 1L << piece.moments[n];
                }
            }
            endCount = 0;
            for (int n = 0; n < piece.notes; n++) {
                int behind = piece.moments[n] + piece.lengths[n];
                if (piece.isPlayed(n) && behind < MOMENTS && (begins >> behind & 1) != 0) {
                    ends[endCount] = behind - 1;
                    endCount++;
                }
            }
        }

        private void gatherPairs(Piece piece) {
            pairCount = 0;
            for (int i = 0; i < piece.notes; i++) {
                for (int j = i + 1; j < piece.notes; j++) {
                    int apart = Math.abs(piece.keys[i] - piece.keys[j]);
                    if (piece.isPlayed(i) && piece.isPlayed(j) && within(apart, 1, 2)
                            && pairCount < PAIRS) {
                        earlier[pairCount] = Math.min(piece.moments[i], piece.moments[j]);
                        later[pairCount] = Math.max(piece.moments[i], piece.moments[j]);
                        pairCount++;
                    }
                }
            }
        }

        int joined(int from, int to) {
            int found = 0;
            for (int i = 0; i < endCount; i++) {
                if (ends[i] >= from && ends[i] + 1 < to) {
                    found++;
                }
            }
            return found;
        }

        /** A pair blurs in each MOMENT from its later NOTE on, as long as the PEDAL is down. */
        int blurred(int from, int to) {
            int found = 0;
            for (int i = 0; i < pairCount; i++) {
                if (earlier[i] >= from && later[i] < to) {
                    found += to - later[i];
                }
            }
            return found;
        }

        /** The shortest ones are tried first, so that only a better one takes the place of one. */
        void findBest() {
            most = 0;
            bestFrom = 0;
            bestTo = 0;
            for (int length = 1; length <= LONGEST_PEDAL; length++) {
                for (int from = 0; from + length <= MOMENTS; from++) {
                    int worth = joined(from, from + length) - blurred(from, from + length);
                    if (worth > most) {
                        most = worth;
                        bestFrom = from;
                        bestTo = from + length;
                    }
                }
            }
        }
    }

    /** PRACTICE: in which BARS the hours leave the fewest SLIPS. */
    private static final class Practising {
        private static final int ROW = HOURS + 1;

        int slips;
        final int[] row = new int[HOURS];
        /** For BAR and hours spent in it: its SLIPS then. */
        private final int[] left = new int[BARS * ROW];
        /** For BAR and hours for it and those behind it: the fewest SLIPS of these. */
        private final int[] least = new int[(BARS + 1) * ROW];

        void solve(Piece piece, int n) {
            countSlips(piece);
            for (int bar = BARS - 1; bar >= 0; bar--) {
                for (int hours = 0; hours <= n; hours++) {
                    int here = hoursHere(bar, hours);
                    least[bar * ROW + hours] = leaves(bar, here, hours);
                }
            }
            slips = least[n];
            fillRow(n);
        }

        private void countSlips(Piece piece) {
            Arrays.fill(left, 0);
            for (int i = 0; i < piece.notes; i++) {
                if (piece.isPlayed(i)) {
                    left[piece.moments[i] / BAR * ROW]++;
                }
                for (int j = i + 1; j < piece.notes; j++) {
                    if (piece.sortOf(i, j) != NONE) {
                        left[Math.max(piece.moments[i], piece.moments[j]) / BAR * ROW] += 4;
                    }
                }
            }
            for (int bar = 0; bar < BARS; bar++) {
                for (int hours = 1; hours <= HOURS; hours++) {
                    left[bar * ROW + hours] = left[bar * ROW + hours - 1] * 3 / 4;
                }
            }
        }

        private int leaves(int bar, int here, int hours) {
            return left[bar * ROW + here] + least[(bar + 1) * ROW + hours - here];
        }

        /** Of like ones the most hours here, as the row is then the first; the last BAR takes all. */
        private int hoursHere(int bar, int hours) {
            int best = hours;
            for (int here = hours - 1; here >= 0 && bar < BARS - 1; here--) {
                if (leaves(bar, here, hours) < leaves(bar, best, hours)) {
                    best = here;
                }
            }
            return best;
        }

        private void fillRow(int n) {
            int filled = 0;
            for (int bar = 0; bar < BARS; bar++) {
                int here = hoursHere(bar, n - filled);
                for (int hour = 0; hour < here && filled < n; hour++) {
                    row[filled] = bar;
                    filled++;
                }
            }
        }
    }
}
