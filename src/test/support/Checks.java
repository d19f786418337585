/** What the tests share: counting wrong answers, and short ways to a house. */
abstract class Checks {
    static final int BAD = -1, FULL = -2, NONE = -3;
    static final int NOTHING = -11, OUTSIDE = -12, OTHER = -13, BELOW_ZERO = -14, PARTED = -15;
    static final int NOBODY = -9;
    static final int LEAST = Integer.MIN_VALUE, MOST = Integer.MAX_VALUE;
    static final int[] NO_DAYS = {-1, 10, LEAST, MOST};
    static final int[] NO_PLACES = {-1, 4, LEAST, MOST};
    static final int[] LAWS_AT_FIRST = {5, 30, 2, 4, 1, 1, 0, 2};
    static final int[] MOST_OF_LAW = {20, 99, 12, 12, 12, 3, 99, 9};
    static final String[] LAW_NAMES = {"take", "pain", "eye", "counter", "reader", "fade", "tell", "gap"};
    static final int TAKE = 0, PAIN = 1, EYE = 2, COUNTER = 3, READER = 4, FADE = 5, TELL = 6, GAP = 7;
    private static int wrong = 0;

    static void due(int promise, String what, long got, long want) {
        if (got != want) {
            wrong++;
            System.out.println("promise " + promise + ": " + what + " answered " + got + ", due is " + want);
        }
    }

    static void end() {
        System.out.println(wrong == 0 ? "all answers are as due" : wrong + " answers are not as due");
        if (wrong != 0) {
            System.exit(1);
        }
    }

    static TillPairs with(int people) {
        TillPairs x = new TillPairs();
        for (int i = 0; i < people; i++) {
            x.person();
        }
        return x;
    }

    static void feedText(TillPairs x, String text) {
        for (int i = 0; i < text.length(); i += 8) {
            int n = Math.min(8, text.length() - i);
            long eight = 0;
            for (int j = n - 1; j >= 0; j--) {
                eight = eight << 8 | text.charAt(i + j);
            }
            x.feed(eight, n);
        }
    }

    static int told(TillPairs x, String text) {
        feedText(x, text);
        return x.house();
    }

    static void till(TillPairs x, int day, int p, int q) {
        x.post(day, 0, p);
        x.post(day, 1, q);
    }

    static void seat(TillPairs x, int day, int p0, int p1, int p2, int p3) {
        till(x, day, p0, p1);
        x.post(day, 2, p2);
        x.post(day, 3, p3);
    }

    static void laws(TillPairs x, int take, int pain, int eye, int counter, int reader) {
        x.set(TAKE, take);
        x.set(PAIN, pain);
        x.set(EYE, eye);
        x.set(COUNTER, counter);
        x.set(READER, reader);
    }

    static int digits(int p0, int p1, int p2, int p3) {
        return p0 + 8 * p1 + 64 * p2 + 512 * p3;
    }
}
