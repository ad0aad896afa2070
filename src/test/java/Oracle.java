import java.util.ArrayDeque;
import java.util.ArrayList;
import java.util.Arrays;
import java.util.Comparator;
import java.util.Deque;
import java.util.List;
import java.util.regex.Matcher;
import java.util.regex.Pattern;

/** The document again, told as slowly and as literally as can be: all ways are tried, none is saved. */
final class Oracle {
    record Note(int key, int moment, int length, int part, int loud, int hand, int late) {
        Note by(int other) {
            return new Note(key, moment, length, part, loud, other, late);
        }

        Note at(int other) {
            return new Note(key, other, length, part, loud, hand, late);
        }

        Note cameLate(int other) {
            return new Note(key, moment, length, part, loud, hand, other);
        }

        boolean sounds(int t) {
            return hand != -1 && moment <= t && t <= moment + length - 1;
        }
    }

    record Hand(int kind, int reach, int speed) { }

    static final class State {
        int near = 2;
        Hand[] hands = {new Hand(0, 9, 4), new Hand(0, 9, 4), new Hand(0, 9, 4), new Hand(0, 9, 4)};
        List<Note> notes = new ArrayList<>();
        int from;
        int to;
        Deque<List<Integer>> undo = new ArrayDeque<>();

        State copy() {
            State s = new State();
            s.near = near;
            s.hands = hands.clone();
            s.notes = new ArrayList<>(notes);
            s.from = from;
            s.to = to;
            s.undo = new ArrayDeque<>(undo);
            return s;
        }
    }

    private State now = new State();
    private final State[] images = new State[2];
    private String text = "";
    private long above = 0;
    private long below = 1;
    private final int[] status = new int[3];

    private int bad(int answer) {
        status[0]++;
        return answer;
    }

    private int no(int answer) {
        status[1]++;
        return answer;
    }

    private int full() {
        status[2]++;
        return -4;
    }

    int piece(int near) {
        if (near < 0 || near > 9) return bad(-2);
        int had = now.notes.size();
        now = new State();
        now.near = near;
        images[0] = null;
        images[1] = null;
        text = "";
        above = 0;
        below = 1;
        Arrays.fill(status, 0);
        return had;
    }

    int hand(int hand, int kind, int reach, int speed) {
        if (hand < 0 || hand > 3 || kind < 0 || kind > 5 || reach < 0 || reach > 15 || speed < 1 || speed > 9) return bad(-2);
        int was = now.hands[hand].kind;
        now.hands[hand] = new Hand(kind, reach, speed);
        return was;
    }

    private static boolean goodNote(int key, long moment, long length, int part, int loud, int hand) {
        return key >= 0 && key <= 47 && moment >= 0 && moment <= 63 && length >= 1 && length <= 8
                && moment + length <= 64 && part >= 0 && part <= 1 && loud >= 0 && loud <= 9 && hand >= -1 && hand <= 3;
    }

    int note(int key, int moment, int length, int part, int loud, int hand) {
        if (!goodNote(key, moment, length, part, loud, hand)) return bad(-2);
        if (now.notes.size() == 12) return full();
        now.notes.add(new Note(key, moment, length, part, loud, hand, -1));
        now.undo.clear();
        return now.notes.size() - 1;
    }

    int type(int c) {
        if (c < 0 || c > 127) return bad(-2);
        if (text.length() == 150) return full();
        text += (char) c;
        return text.length();
    }

    int clear() {
        int had = text.length();
        text = "";
        return had;
    }

    record Token(String word, int place) { }

    private static final Pattern TOKEN = Pattern.compile("[a-z]+|[0-9]+|[^ ]", Pattern.DOTALL);

    private List<Token> tokens() {
        List<Token> all = new ArrayList<>();
        Matcher m = TOKEN.matcher(text);
        while (m.find()) all.add(new Token(m.group(), m.start()));
        return all;
    }

    int read() {
        List<Token> all = tokens();
        State made = null;
        int items = 0;
        int at = 0;
        while (at < all.size()) {
            Token word = all.get(at++);
            int[][] bounds;
            if (made == null) {
                if (!word.word.equals("piece")) return -10 - word.place;
                bounds = new int[][] {{0, 9}};
            } else if (word.word.equals("hand")) {
                bounds = new int[][] {{0, 3}, {0, 5}, {0, 15}, {1, 9}};
            } else if (word.word.equals("note") && made.notes.size() < 12) {
                bounds = new int[][] {{0, 47}, {0, 63}, {1, 8}, {0, 1}, {0, 9}, {0, 4}};
            } else {
                return -10 - word.place;
            }
            int[] v = new int[bounds.length];
            for (int k = 0; k < v.length; k++) {
                if (at == all.size()) return -10 - text.length();
                Token number = all.get(at++);
                if (!number.word.matches("[0-9]{1,2}")) return -10 - number.place;
                v[k] = Integer.parseInt(number.word);
                if (v[k] < bounds[k][0] || v[k] > bounds[k][1]) return -10 - number.place;
                if (v.length == 6 && k == 2 && v[1] + v[2] > 64) return -10 - number.place;
            }
            if (at == all.size()) return -10 - text.length();
            Token stop = all.get(at++);
            if (!stop.word.equals(";")) return -10 - stop.place;
            if (v.length == 1) {
                made = new State();
                made.near = v[0];
            } else if (v.length == 4) {
                made.hands[v[0]] = new Hand(v[1], v[2], v[3]);
            } else {
                made.notes.add(new Note(v[0], v[1], v[2], v[3], v[4], v[5] == 4 ? -1 : v[5], -1));
            }
            items++;
        }
        if (made == null) return -10 - text.length();
        now = made;
        return items;
    }

    private boolean isNote(int n) {
        return n >= 0 && n < now.notes.size();
    }

    int give(int note, int hand) {
        if (!isNote(note) || hand < -1 || hand > 3) return bad(-2);
        List<Integer> were = new ArrayList<>();
        for (Note n : now.notes) were.add(n.hand);
        now.undo.addLast(were);
        if (now.undo.size() > 10) now.undo.removeFirst();
        now.notes.set(note, now.notes.get(note).by(hand));
        return all(now.notes).size();
    }

    int undo() {
        if (now.undo.isEmpty()) return no(-3);
        List<Integer> were = now.undo.removeLast();
        for (int n = 0; n < were.size(); n++) now.notes.set(n, now.notes.get(n).by(were.get(n)));
        return all(now.notes).size();
    }

    int of(int note, int what) {
        if (!isNote(note) || what < 0 || what > 5) return bad(-10);
        Note n = now.notes.get(note);
        return new int[] {n.key, n.moment, n.length, n.part, n.loud, n.hand}[what];
    }

    private int reaches(int hand) {
        int[] r = new int[6];
        r[0] = now.hands[hand].reach;
        r[1] = r[0];
        r[2] = r[0];
        r[3] = Math.max(0, r[0] - 2);
        r[4] = r[1];
        r[5] = r[3];
        return r[now.hands[hand].kind];
    }

    private int moves(int hand) {
        int[] s = new int[6];
        s[0] = now.hands[hand].speed;
        s[1] = 2 * s[0];
        s[2] = s[0];
        s[3] = Math.max(1, s[0] / 2);
        s[4] = s[1];
        s[5] = s[3];
        return s[now.hands[hand].kind];
    }

    private int nearOf(int hand) {
        int[] s = new int[6];
        s[0] = now.near;
        s[1] = s[0];
        s[2] = s[0] + 1;
        s[3] = s[0];
        s[4] = s[1] / 2;
        s[5] = s[3] * 2;
        return s[now.hands[hand].kind];
    }

    int about(int hand, int what) {
        if (hand < 0 || hand > 3 || what < 0 || what > 4) return bad(-2);
        int bits = 0;
        for (int n = 0; n < now.notes.size(); n++) if (now.notes.get(n).hand == hand) bits += 1 << n;
        return new int[] {now.hands[hand].kind, reaches(hand), moves(hand), nearOf(hand), bits}[what];
    }

    private int sort(Note a, Note b) {
        if (a.hand == -1 || b.hand == -1) return -1;
        int apart = Math.abs(a.key - b.key);
        if (a.key == b.key && a.moment == b.moment) return 0;
        if (a.key == b.key && (a.sounds(b.moment) || b.sounds(a.moment))) return 1;
        boolean together = false;
        for (int t = 0; t < 80; t++) together |= a.sounds(t) && b.sounds(t);
        if (together) {
            if (a.hand == b.hand) return apart > reaches(a.hand) ? 2 : -1;
            boolean hersA = a.hand < 2;
            boolean hersB = b.hand < 2;
            if (hersA == hersB) return -1;
            if (apart < nearOf(a.hand) || apart < nearOf(b.hand)) return 3;
            Note hers = hersA ? a : b;
            Note his = hersA ? b : a;
            return hers.key < his.key ? 4 : -1;
        }
        if (a.hand != b.hand) return -1;
        Note one = a.moment < b.moment ? a : b;
        Note other = a.moment < b.moment ? b : a;
        int between = 0;
        for (int t = one.moment + one.length; t < other.moment; t++) between++;
        return apart > moves(a.hand) * between ? 5 : -1;
    }

    private List<int[]> all(List<Note> notes) {
        List<int[]> found = new ArrayList<>();
        for (int i = 0; i < notes.size(); i++) {
            for (int j = i + 1; j < notes.size(); j++) {
                int s = sort(notes.get(i), notes.get(j));
                if (s != -1) found.add(new int[] {100 * i + j, s, Math.max(notes.get(i).moment, notes.get(j).moment)});
            }
        }
        return found;
    }

    int clash(int a, int b) {
        if (!isNote(a) || !isNote(b) || a == b) return bad(-2);
        return sort(now.notes.get(Math.min(a, b)), now.notes.get(Math.max(a, b)));
    }

    int clashes(int sort, int i) {
        if (sort < -1 || sort > 5 || i < -1) return bad(-10);
        List<int[]> found = all(now.notes);
        found.removeIf(c -> sort != -1 && c[1] != sort);
        return pick(found.size(), i, found.stream().mapToInt(c -> c[0]).toArray());
    }

    private static int pick(int much, int i, int[] row) {
        if (i == -1) return much;
        return i < row.length ? row[i] : -5;
    }

    int given(int m, int i) {
        if (m < 0 || m > 2 || i < -1) return bad(-10);
        List<int[]> rows = new ArrayList<>();
        rows.add(new int[] {});
        if (m >= 1) for (int a : changes()) rows.add(new int[] {a});
        if (m >= 2) for (int a : changes()) for (int b : changes()) if (a / 10 < b / 10) rows.add(new int[] {a, b});
        int[] best = null;
        int fewest = 0;
        Comparator<int[]> order = Comparator.<int[]>comparingInt(r -> r.length).thenComparing(Arrays::compare);
        for (int[] row : rows) {
            List<Note> then = new ArrayList<>(now.notes);
            for (int c : row) then.set(c / 10, then.get(c / 10).by(c % 10));
            int clashes = all(then).size();
            if (best == null || clashes < fewest || clashes == fewest && order.compare(row, best) < 0) {
                best = row;
                fewest = clashes;
            }
        }
        return pick(fewest, i, best);
    }

    private List<Integer> changes() {
        List<Integer> found = new ArrayList<>();
        for (int h = 3; h >= 0; h--) {
            for (int n = 0; n < now.notes.size(); n++) {
                int is = now.notes.get(n).hand;
                if (is != -1 && is != h) found.add(10 * n + h);
            }
        }
        return found;
    }

    int out() {
        List<int[]> found = all(now.notes);
        int best = -1;
        for (int set = (1 << now.notes.size()) - 1; set >= 0; set--) {
            boolean none = true;
            for (int[] c : found) none &= (set >> c[0] / 100 & 1) == 1 || (set >> c[0] % 100 & 1) == 1;
            if (none && (best == -1 || Integer.bitCount(set) <= Integer.bitCount(best))) best = set;
        }
        return best;
    }

    int fingers(int hand, int i) {
        if (hand < 0 || hand > 3 || i < -1) return bad(-10);
        List<Note> his = new ArrayList<>(now.notes);
        his.removeIf(n -> n.hand != hand);
        if (his.size() > 8) return no(-20);
        his.sort(Comparator.<Note>comparingInt(n -> n.moment).thenComparingInt(n -> n.key));
        int rows = 1;
        for (int k = 0; k < his.size(); k++) rows *= 5;
        int least = Integer.MAX_VALUE;
        int[] best = null;
        int[] row = new int[his.size()];
        for (int r = 0; r < rows; r++) {
            int rest = r;
            for (int k = row.length - 1; k >= 0; k--) {
                row[k] = rest % 5;
                rest /= 5;
            }
            int cost = 0;
            for (int k = 1; k < row.length && cost < least; k++) {
                int keys = his.get(k).key - his.get(k - 1).key;
                cost += Math.abs(keys - (row[k] - row[k - 1]));
                if (row[k] == row[k - 1] && keys != 0) cost += 3;
            }
            if (cost < least) {
                least = cost;
                best = row.clone();
            }
        }
        return pick(least, i, best);
    }

    int pedal(int from, int to) {
        if (from < 0 || from > to || to > 64) return bad(-2);
        now.from = from;
        now.to = to;
        return 1;
    }

    private int blurred(int from, int to) {
        int found = 0;
        for (int t = from; t < to; t++) {
            List<Note> began = new ArrayList<>();
            for (Note n : now.notes) if (n.hand != -1 && n.moment >= from && n.moment < to && n.moment <= t) began.add(n);
            for (int i = 0; i < began.size(); i++) {
                for (int j = 0; j < i; j++) {
                    int apart = Math.abs(began.get(i).key - began.get(j).key);
                    if (apart == 1 || apart == 2) found++;
                }
            }
        }
        return found;
    }

    private int joined(int from, int to) {
        int found = 0;
        for (Note n : now.notes) {
            int last = n.moment + n.length - 1;
            boolean down = n.hand != -1 && last >= from && last < to && last + 1 < to;
            if (down && now.notes.stream().anyMatch(o -> o.hand != -1 && o.moment == last + 1)) found++;
        }
        return found;
    }

    int blurs(int what) {
        if (what < 0 || what > 1) return bad(-2);
        return what == 0 ? blurred(now.from, now.to) : joined(now.from, now.to);
    }

    int best(int what) {
        if (what < 0 || what > 1) return bad(-2);
        int most = 0;
        int bestFrom = 0;
        int bestTo = 0;
        for (int from = 0; from <= 64; from++) {
            for (int to = from; to <= 64 && to - from <= 16; to++) {
                int worth = joined(from, to) - blurred(from, to);
                if (worth > most || worth == most && to - from < bestTo - bestFrom) {
                    most = worth;
                    bestFrom = from;
                    bestTo = to;
                }
            }
        }
        return what == 0 ? most : 100 * bestFrom + bestTo;
    }

    int turns(int moment, int h, int person) {
        if (moment < 0 || moment > 63 || h < 0 || h > 9 || person < -1 || person > 1) return bad(-2);
        List<int[]> free = new ArrayList<>();
        for (int t = 0; t < 64; t++) {
            for (int hand = 0; hand < 4; hand++) {
                boolean busy = false;
                for (Note n : now.notes) busy |= n.hand == hand && n.sounds(t);
                if (!busy && Math.abs(t - moment) <= h && (person == -1 || hand / 2 == person)) free.add(new int[] {Math.abs(t - moment), t, hand});
            }
        }
        free.sort(Arrays::compare);
        return free.isEmpty() ? -1 : 10 * free.get(0)[1] + free.get(0)[2];
    }

    long covered() {
        long bits = 0;
        for (int t = 0; t < 64; t++) {
            int[] loud = new int[2];
            boolean tune = false;
            for (Note n : now.notes) {
                if (n.sounds(t)) {
                    loud[n.part] += n.loud;
                    tune |= n.part == 0;
                }
            }
            if (tune && loud[1] > loud[0]) bits |= 1L << t;
        }
        return bits;
    }

    int places() {
        List<Note> then = new ArrayList<>();
        for (Note n : now.notes) then.add(n.hand == -1 ? n : n.by(n.hand ^ 2));
        return all(now.notes).size() - all(then).size();
    }

    int practice(int n, int i) {
        if (n < 0 || n > 6 || i < -1) return bad(-10);
        int[] slips = new int[8];
        for (int[] c : all(now.notes)) slips[c[2] / 8] += 4;
        for (Note note : now.notes) if (note.hand != -1) slips[note.moment / 8]++;
        List<int[]> rows = new ArrayList<>();
        rows.add(new int[0]);
        for (int k = 0; k < n; k++) {
            List<int[]> longer = new ArrayList<>();
            for (int[] row : rows) {
                for (int bar = k == 0 ? 0 : row[k - 1]; bar < 8; bar++) {
                    int[] with = Arrays.copyOf(row, k + 1);
                    with[k] = bar;
                    longer.add(with);
                }
            }
            rows = longer;
        }
        int least = Integer.MAX_VALUE;
        int[] best = null;
        for (int[] row : rows) {
            int[] then = slips.clone();
            for (int bar : row) then[bar] = then[bar] * 3 / 4;
            int sum = Arrays.stream(then).sum();
            if (sum < least) {
                least = sum;
                best = row;
            }
        }
        return pick(least, i, best);
    }

    int breath(int n, int s) {
        if (n < 0 || n > 20 || s < 0 || s > 20) return bad(-2);
        int near = 0;
        for (int d = -n; d <= n; d++) if (Math.abs(d) <= s) near += n + 1 - Math.abs(d);
        int all = (n + 1) * (n + 1);
        for (int f = all; f >= 1; f--) {
            if (near % f == 0 && all % f == 0) {
                above = near / f;
                below = all / f;
                break;
            }
        }
        return 1;
    }

    int heard(int note, int late) {
        if (!isNote(note) || late < -1 || late > 9) return bad(-10);
        int was = now.notes.get(note).late;
        now.notes.set(note, now.notes.get(note).cameLate(late));
        return was;
    }

    int late() {
        int bits = 0;
        for (int hand = 0; hand < 4; hand++) {
            for (int from = 0; from < 64; from++) {
                for (int by = 0; by <= 9; by++) {
                    boolean explains = true;
                    for (Note n : now.notes) explains &= n.late == -1 || n.late == (n.hand == hand && n.moment >= from ? by : 0);
                    if (explains) bits |= 1 << hand;
                }
            }
        }
        return bits;
    }

    int evening(int seed, int w) {
        if (seed < 0 || seed > 999999 || w < 0 || w > 100) return bad(-2);
        long x = seed;
        List<Note> then = new ArrayList<>();
        for (Note n : now.notes) {
            x = (x * 1103515245 + 12345) & 0x7fffffffL;
            then.add((x >> 16) % 100 < w ? n.at(n.moment == 63 ? 63 : n.moment + 1) : n);
        }
        return all(then).size();
    }

    long part(int what) {
        if (what < 0 || what > 1) return bad(-2);
        return what == 0 ? above : below;
    }

    int image(int i) {
        if (i < 0 || i > 1) return bad(-2);
        images[i] = now.copy();
        return 1;
    }

    int from(int i) {
        if (i < 0 || i > 1) return bad(-2);
        if (images[i] == null) return no(-3);
        now = images[i].copy();
        return 1;
    }

    int status(int what) {
        return what < 0 || what > 2 ? bad(-1) : status[what];
    }

    int count(int what) {
        if (what < 0 || what > 5) return bad(-2);
        int played = (int) now.notes.stream().filter(n -> n.hand != -1).count();
        return new int[] {now.notes.size(), played, now.near, now.to - now.from, now.undo.size(), text.length()}[what];
    }

    long digest() {
        List<Long> v = new ArrayList<>();
        for (int what = 0; what < 6; what++) v.add((long) count(what));
        for (Hand h : now.hands) for (int x : new int[] {h.kind, h.reach, h.speed}) v.add((long) x);
        v.add((long) now.from);
        v.add((long) now.to);
        for (Note n : now.notes) for (int x : new int[] {n.key, n.moment, n.length, n.part, n.loud, n.hand, n.late}) v.add((long) x);
        v.add(above);
        v.add(below);
        long h = 877;
        for (long x : v) h = 31 * h + x;
        return h;
    }
}
