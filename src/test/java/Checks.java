/** What the tests of answers share: an answer that is due, and short ways to a piece. */
abstract class Checks {
    protected static final int MIN = Integer.MIN_VALUE;
    protected static final int MAX = Integer.MAX_VALUE;
    protected static int wrong;
    protected static int promise;
    private static final int PROMISES = 33;
    private static final boolean[] asked = new boolean[PROMISES + 1];

    protected static void due(String call, long got, long want) {
        asked[promise] = true;
        if (got != want) {
            wrong++;
            System.out.println("promise " + promise + ": " + call + " answered " + got + ", due is " + want);
        }
    }

    /** A promise that nobody asked for would go by unseen. */
    protected static void everyPromise() {
        for (int p = 1; p <= PROMISES; p++) {
            if (!asked[p]) {
                wrong++;
                System.out.println("promise " + p + " has no test");
            }
        }
    }

    protected static void end(String test) {
        System.out.println(test + (wrong == 0 ? ": all answers are as due" : ": " + wrong + " answers are not as due"));
        if (wrong != 0) System.exit(1);
    }

    protected static void typed(FourHands x, String text) {
        x.clear();
        for (int i = 0; i < text.length(); i++) x.type(text.charAt(i));
    }

    protected static FourHands of(int[]... notes) {
        FourHands x = new FourHands();
        for (int[] n : notes) {
            if (x.note(n[0], n[1], n[2], n[3], n[4], n[5]) < 0) throw new IllegalStateException("no such note");
        }
        return x;
    }

    protected static int[] n(int key, int moment, int length, int hand) {
        return new int[] {key, moment, length, 0, 1, hand};
    }
}
