/** The boundaries of PLANS and ROWS: promises 27 to 34. */
public final class PlanEdges extends Checks {
    private static final int TURN = 1, DRAW = 2, COUNTED = 3, REST = 4, AS_TOLD = 5;

    public static void main(String[] args) {
        planEdges();
        planFull();
        planOfEdges();
        fillRefused();
        fillWhoIsPresent();
        fillExactlyFour();
        restAndRemainder();
        restLeavesTooFew();
        turnNeverIsLongest();
        turnLongestAgo();
        turnFirstOfSeveral();
        turnKin();
        turnOthers();
        drawUnsigned();
        drawOfThosePresent();
        countedAtTheCount();
        countedAmongFour();
        toldDigits();
        toldNone();
        fillReplaces();
        zOnlyByDraws();
        seedAnything();
        rowsNone();
        rowsWritten();
        rowsEdges();
        rowsAltered();
        judgeFirst();
        judgeByHouse();
        rowsThatStay();
        end();
    }

    private static TillPairs planned(int people, int kind, int a) {
        TillPairs x = with(people);
        x.plan(kind, a);
        return x;
    }

    // ---- promises 27 and 28

    private static void planEdges() {
        for (int kind = TURN; kind <= AS_TOLD; kind++) {
            TillPairs x = new TillPairs();
            for (int no : new int[] {-1, 4096, LEAST, MOST}) {
                due(27, "kind " + kind + ", A " + no, x.plan(kind, no), BAD);
            }
            due(27, "none yet", x.many(1), 0);
            due(27, "kind " + kind + ", A 0", x.plan(kind, 0), 0);
            due(27, "kind " + kind + ", A 4095", x.plan(kind, 4095), 1);
            due(28, "its kind", x.planOf(0, 0), kind);
            due(28, "its A", x.planOf(0, 1), 0);
            due(28, "the other's kind", x.planOf(1, 0), kind);
            due(28, "the other's A", x.planOf(1, 1), 4095);
        }
        TillPairs x = new TillPairs();
        for (int no : new int[] {0, 6, -1, LEAST, MOST}) {
            due(27, "kind " + no, x.plan(no, 0), BAD);
            due(27, "kind " + no + ", A -1", x.plan(no, -1), BAD);
        }
        due(27, "none yet", x.many(1), 0);
    }

    private static void planFull() {
        TillPairs x = new TillPairs();
        for (int n = 0; n < 4; n++) {
            due(27, "plan " + n, x.plan(n + 1, 100 + n), n);
            due(43, "plans", x.many(1), n + 1);
        }
        for (int kind = TURN; kind <= AS_TOLD; kind++) {
            due(27, "a fifth", x.plan(kind, 0), FULL);
            due(27, "a fifth", x.plan(kind, 4095), FULL);
            due(27, "a fifth, A 4096", x.plan(kind, 4096), BAD);
            due(27, "a fifth, A -1", x.plan(kind, -1), BAD);
        }
        due(27, "a fifth, kind 0", x.plan(0, 0), BAD);
        due(27, "a fifth, kind 6", x.plan(6, 0), BAD);
        for (int n = 0; n < 4; n++) {
            due(28, "kind of " + n, x.planOf(n, 0), n + 1);
            due(28, "A of " + n, x.planOf(n, 1), 100 + n);
        }
        due(43, "plans", x.many(1), 4);
    }

    private static void planOfEdges() {
        TillPairs x = new TillPairs();
        for (int n = 0; n <= 4; n++) {
            due(28, "plan " + n + " isn't", x.planOf(n, 0), BAD);
            if (n < 4) {
                x.plan(TURN, 7);
                due(28, "plan " + n + " is", x.planOf(n, 1), 7);
            }
        }
        for (int no : new int[] {-1, 5, LEAST, MOST}) {
            due(28, "plan " + no, x.planOf(no, 0), BAD);
        }
        for (int what : new int[] {-1, 2, LEAST, MOST}) {
            due(28, "what " + what, x.planOf(0, what), BAD);
            due(28, "what " + what + " of no plan", x.planOf(4, what), BAD);
        }
    }

    // ---- promise 29

    private static void fillRefused() {
        TillPairs x = with(4);
        due(29, "no plan yet", x.fill(0, 0), BAD);
        for (int kind = TURN; kind <= REST; kind++) {
            x.plan(kind, 0);
        }
        for (int no : new int[] {-1, 4, LEAST, MOST}) {
            due(29, "plan " + no, x.fill(no, 0), BAD);
        }
        for (int n = 0; n < 4; n++) {
            for (int no : NO_DAYS) {
                due(29, "plan " + n + " on day " + no, x.fill(n, no), BAD);
            }
        }
        for (int day = 0; day < 10; day++) {
            due(29, "nobody came to day " + day, x.postOf(day, 0), NOBODY);
        }
        due(29, "rest: three are present, but no such day", x.fill(3, 10), BAD);
        due(29, "rest: three are present", x.fill(3, 9), NONE);
        due(30, "z", x.seed(1), 1);
    }

    /** Fewer than four PRESENT: NONE, and nothing is changed; four: it fills. */
    private static void fillExactlyFour() {
        for (int kind = TURN; kind <= REST; kind++) {
            for (int people = 0; people <= 8; people++) {
                for (int day = 0; day < 10; day += 9) {
                    TillPairs x = planned(people, kind, 0);
                    int present = kind == REST && people > 0 ? people - 1 : people;
                    boolean fills = present >= 4;
                    int got = x.fill(0, day);
                    due(29, people + " people by kind " + kind, fills ? Math.min(got, 0) : got, fills ? 0 : NONE);
                    due(29, "who is at the till", x.postOf(day, 0), fills ? got & 7 : NOBODY);
                    due(29, "who is at the count", x.postOf(day, 3), fills ? got >> 9 : NOBODY);
                    due(30, "z", x.seed(1) == 1 ? 1 : 0, fills && (kind == DRAW || kind == COUNTED) ? 0 : 1);
                }
            }
        }
    }

    private static void fillWhoIsPresent() {
        for (int kind = TURN; kind <= COUNTED; kind++) {
            TillPairs x = planned(8, kind, 0);
            for (int p = 0; p < 8; p += 2) {
                x.away(p, 5, true);
            }
            seat(x, 5, 7, 7, 7, 7);
            int got = x.fill(0, 5);
            due(29, "all four are there once", 1 << (got & 7) | 1 << (got >> 3 & 7) | 1 << (got >> 6 & 7) | 1 << (got >> 9),
                    0b10101010);
            x.away(7, 5, true);
            due(29, "three", x.fill(0, 5), NONE);
            for (int post = 0; post < 4; post++) {
                due(29, "they stay", x.postOf(5, post), got >> (3 * post) & 7);
            }
            x.away(0, 5, false);
            due(29, "four again", Math.min(0, x.fill(0, 5)), 0);
            due(29, "away on one day is there on another", Math.min(0, x.fill(0, 6)), 0);
        }
    }

    private static void restAndRemainder() {
        for (int people = 5; people <= 8; people++) {
            for (int a : new int[] {0, 1, people - 1, people, 4095}) {
                for (int day = 0; day < 10; day++) {
                    TillPairs x = planned(people, REST, a);
                    int rests = (a + day) % people;
                    int[] there = new int[people];
                    int many = 0;
                    for (int p = 0; p < people; p++) {
                        if (p != rests) {
                            there[many] = p;
                            many++;
                        }
                    }
                    due(29, "rest by " + a + " on " + day + " of " + people, x.fill(0, day),
                            digits(there[0], there[1], there[2], there[3]));
                }
            }
        }
        TillPairs x = planned(5, REST, 4095);
        due(29, "4095 modulo 5 is 0", x.fill(0, 0), digits(1, 2, 3, 4));
        x.person();
        due(29, "4095 modulo 6 is 3", x.fill(0, 0), digits(0, 1, 2, 4));
    }

    private static void restLeavesTooFew() {
        TillPairs x = planned(4, REST, 0);
        for (int day = 0; day < 10; day++) {
            due(29, "four people, one rests", x.fill(0, day), NONE);
        }
        x.person();
        due(29, "a fifth", x.fill(0, 0), digits(1, 2, 3, 4));
        x.away(1, 0, true);
        due(29, "another one is away", x.fill(0, 0), NONE);
        due(29, "who is there stays", x.postOf(0, 0), 1);
        x.away(1, 0, false);
        x.away(0, 0, true);
        due(29, "the one who rests is away", x.fill(0, 0), digits(1, 2, 3, 4));
    }

    private static void turnNeverIsLongest() {
        for (int kind = TURN; kind <= REST; kind += 3) {
            TillPairs x = planned(kind == REST ? 5 : 4, kind, kind == REST ? 4 : 0);
            int[][] pairs = {{0, 1}, {0, 2}, {0, 3}, {1, 2}, {1, 3}, {2, 3}};
            for (int day = 0; day < 6; day++) {
                till(x, day, pairs[day][1], pairs[day][0]);
            }
            if (kind == TURN) {
                due(29, "longest ago is on day 0", x.fill(0, 9), digits(0, 1, 2, 3));
                till(x, 0, -1, 1);
                till(x, 5, 2, 2);
                due(29, "never: (0 1) and (2 3)", x.fill(0, 8), digits(0, 1, 2, 3));
                till(x, 0, 0, 1);
                due(29, "never: (2 3) alone", x.fill(0, 7), digits(2, 3, 0, 1));
            } else {
                // 4 + 6 modulo 5: nobody above 3 but 4 is there, who never sat
                due(29, "0 rests, (1 4) never sat", x.fill(0, 6), digits(1, 4, 2, 3));
            }
        }
    }

    private static void turnLongestAgo() {
        TillPairs x = planned(4, TURN, 0);
        int[][] pairs = {{2, 3}, {1, 3}, {1, 2}, {0, 3}, {0, 2}, {0, 1}};
        for (int day = 0; day < 6; day++) {
            till(x, day, pairs[day][0], pairs[day][1]);
        }
        due(29, "on day 6: they of day 0", x.fill(0, 6), digits(2, 3, 0, 1));
        due(29, "on day 7: they of day 1", x.fill(0, 7), digits(1, 3, 0, 2));
        due(29, "on day 8: they of day 2", x.fill(0, 8), digits(1, 2, 0, 3));
        due(29, "on day 9: they of day 3", x.fill(0, 9), digits(0, 3, 1, 2));
        due(29, "day 6 once more: the day itself and those behind count nothing", x.fill(0, 6), digits(2, 3, 0, 1));
        due(29, "on day 1: (2 3) sat, the first who didn't", x.fill(0, 1), digits(0, 1, 2, 3));
        till(x, 5, 3, 2);
        due(29, "(2 3) sat on day 5 again", x.fill(0, 6), digits(1, 3, 0, 2));
    }

    private static void turnFirstOfSeveral() {
        TillPairs x = planned(8, TURN, 0);
        due(29, "day 0", x.fill(0, 0), digits(0, 1, 2, 3));
        due(29, "day 1", x.fill(0, 1), digits(0, 2, 1, 3));
        due(29, "day 2", x.fill(0, 2), digits(0, 3, 1, 2));
        for (int day = 3; day < 7; day++) {
            due(29, "day " + day, x.fill(0, day), digits(0, day + 1, 1, 2));
        }
        due(29, "day 7", x.fill(0, 7), digits(1, 2, 0, 3));
        x.away(0, 8, true);
        x.away(1, 8, true);
        x.away(2, 8, true);
        x.away(3, 8, true);
        due(29, "the last four", x.fill(0, 8), digits(4, 5, 6, 7));
        for (int p = 0; p < 4; p++) {
            x.away(p, 9, true);
        }
        due(29, "the last four, on the last day", x.fill(0, 9), digits(4, 6, 5, 7));
    }

    private static void turnKin() {
        TillPairs x = planned(5, TURN, 0);
        for (int p = 0; p < 5; p++) {
            for (int q = 0; q < p; q++) {
                x.kin(p, q, true);
            }
        }
        due(29, "all are kin: any two", x.fill(0, 0), digits(0, 1, 2, 3));
        due(29, "all are kin: the next", x.fill(0, 1), digits(0, 2, 1, 3));
        x.kin(4, 3, false);
        due(29, "one pair isn't", x.fill(0, 2), digits(3, 4, 0, 1));
        due(29, "the same pair, though it sat the day ahead", x.fill(0, 3), digits(3, 4, 0, 1));
        x.away(4, 4, true);
        due(29, "it isn't PRESENT: any two again", x.fill(0, 4), digits(0, 3, 1, 2));
        TillPairs y = planned(5, REST, 4);
        for (int p = 0; p < 4; p++) {
            for (int q = 0; q < p; q++) {
                y.kin(p, q, true);
            }
        }
        due(29, "4 rests: all who are PRESENT are kin", y.fill(0, 0), digits(0, 1, 2, 3));
        due(29, "0 rests: (1 4) are not", y.fill(0, 1), digits(1, 4, 2, 3));
    }

    private static void turnOthers() {
        TillPairs x = planned(6, TURN, 0);
        x.away(0, 3, true);
        x.kin(1, 2, true);
        due(29, "2 is the least of the others", x.fill(0, 3), digits(1, 3, 2, 4));
        x.away(2, 3, true);
        due(29, "4 and 5 are left", x.fill(0, 3), digits(1, 3, 4, 5));
        x.away(3, 3, true);
        due(29, "too few", x.fill(0, 3), NONE);
    }

    /** The rule of draw, in longs. */
    private static long[] drawn(int z, int present) {
        long[] drawn = new long[5];
        long at = z & 0xFFFFFFFFL;
        int left = present;
        for (int post = 0; post < 4; post++) {
            at = (at * 1103515245L + 12345L) & 0xFFFFFFFFL;
            long place = (at / 65536L) % Integer.bitCount(left);
            int p = 0;
            for (int skipped = 0; skipped < place || (left >> p & 1) == 0; p++) {
                skipped += left >> p & 1;
            }
            drawn[post] = p;
            left &= ~(1 << p);
        }
        drawn[4] = (int) at;
        return drawn;
    }

    private static void drawUnsigned() {
        int[] seeds = {0, 1, -1, 2, LEAST, MOST, -1661227463, 65536, -65536, 12345, 1 << 30};
        for (int z : seeds) {
            for (int people = 4; people <= 8; people++) {
                TillPairs x = planned(people, DRAW, 0);
                x.seed(z);
                long[] due = drawn(z, (1 << people) - 1);
                due(29, "drawn of " + people + " by " + z, x.fill(0, 9),
                        due[0] + 8 * due[1] + 64 * due[2] + 512 * due[3]);
                due(30, "z behind it", x.seed(0), due[4]);
            }
        }
        TillPairs x = planned(8, DRAW, 4095);
        int z = 1;
        for (int times = 0; times < 200; times++) {
            long[] due = drawn(z, 255);
            due(29, "draw " + times, x.fill(0, times % 10), due[0] + 8 * due[1] + 64 * due[2] + 512 * due[3]);
            z = (int) due[4];
        }
        due(30, "z in the end", x.seed(0), z);
    }

    private static void drawOfThosePresent() {
        for (int gone = 0; gone < 256; gone += 5) {
            TillPairs x = planned(8, DRAW, 0);
            for (int p = 0; p < 8; p++) {
                x.away(p, 2, (gone >> p & 1) != 0);
            }
            x.seed(gone * 77777);
            int present = 255 & ~gone;
            if (Integer.bitCount(present) < 4) {
                due(29, "too few", x.fill(0, 2), NONE);
                due(30, "z stays", x.seed(0), gone * 77777);
            } else {
                long[] due = drawn(gone * 77777, present);
                due(29, "present " + present, x.fill(0, 2), due[0] + 8 * due[1] + 64 * due[2] + 512 * due[3]);
                due(30, "z", x.seed(0), due[4]);
            }
        }
    }

    /** At THE COUNT the least who isn't at POSTS 0 to 2 and is KIN of neither at THE TILL. */
    private static void countedAtTheCount() {
        for (int z = 0; z < 60; z++) {
            TillPairs x = planned(7, COUNTED, 0);
            x.away(z % 7, 0, true);
            int present = 127 & ~(1 << z % 7);
            long[] due = drawn(z, present);
            int[] others = new int[3];
            int many = 0;
            for (int p = 0; p < 7; p++) {
                if ((present >> p & 1) != 0 && p != due[0] && p != due[1] && p != due[2]) {
                    others[many] = p;
                    many++;
                }
            }
            long start = due[0] + 8 * due[1] + 64 * due[2];
            for (int kin = 0; kin < 8; kin++) {
                for (int i = 0; i < 3; i++) {
                    x.kin(others[i], (int) due[(z + i) % 2], (kin >> i & 1) != 0);
                }
                int first = Integer.numberOfTrailingZeros(~kin);
                x.seed(z);
                due(29, "z " + z + ", kin " + kin, x.fill(0, 0), start + 512 * (first < 3 ? others[first] : due[3]));
                due(30, "z by four steps all the same", x.seed(z), due[4]);
            }
        }
    }

    private static void countedAmongFour() {
        for (int z = 0; z < 40; z++) {
            TillPairs x = planned(4, COUNTED, 0);
            x.seed(z);
            long[] due = drawn(z, 15);
            long all = due[0] + 8 * due[1] + 64 * due[2] + 512 * due[3];
            due(29, "the only one left", x.fill(0, 0), all);
            x.kin((int) due[3], (int) due[0], true);
            x.seed(z);
            due(29, "the only one left is kin", x.fill(0, 0), all);
            x.kin((int) due[3], (int) due[0], false);
            x.kin((int) due[3], (int) due[2], true);
            x.seed(z);
            due(29, "kin at the book", x.fill(0, 0), all);
        }
    }

    private static void toldDigits() {
        for (int people = 1; people <= 8; people++) {
            for (int post = 0; post < 4; post++) {
                TillPairs x = with(people);
                x.plan(AS_TOLD, (people - 1) << (3 * post));
                due(29, "the last one at post " + post, x.fill(0, 9), (people - 1) << (3 * post));
                due(11, "there he is", x.postOf(9, post), people - 1);
                if (people < 8) {
                    x.plan(AS_TOLD, people << (3 * post));
                    due(29, "one more at post " + post, x.fill(1, 9), NONE);
                    due(11, "who was there stays", x.postOf(9, post), people - 1);
                    x.person();
                    due(29, "when there is one", x.fill(1, 9), people << (3 * post));
                }
            }
        }
        TillPairs x = with(8);
        x.plan(AS_TOLD, 4095);
        x.plan(AS_TOLD, digits(1, 2, 3, 4));
        due(29, "7 at all posts", x.fill(0, 0), 4095);
        due(29, "the lowest for post 0", x.fill(1, 0), digits(1, 2, 3, 4));
        for (int post = 0; post < 4; post++) {
            due(11, "post " + post, x.postOf(0, post), post + 1);
        }
    }

    private static void toldNone() {
        TillPairs x = planned(0, AS_TOLD, 0);
        due(29, "nobody", x.fill(0, 0), NONE);
        x.person();
        x.away(0, 0, true);
        due(29, "one, who is away", x.fill(0, 0), 0);
        TillPairs y = planned(7, AS_TOLD, digits(0, 1, 2, 7));
        seat(y, 4, 3, 4, 5, 6);
        due(29, "the last one isn't", y.fill(0, 4), NONE);
        for (int post = 0; post < 4; post++) {
            due(11, "nothing is changed", y.postOf(4, post), 3 + post);
        }
        due(30, "z", y.seed(1), 1);
    }

    private static void fillReplaces() {
        for (int kind = TURN; kind <= REST; kind++) {
            TillPairs x = planned(8, kind, 7);
            for (int day = 0; day < 10; day++) {
                seat(x, day, 6, 6, 6, 6);
            }
            int got = x.fill(0, 0);
            for (int post = 0; post < 4; post++) {
                due(11, "as it answered", x.postOf(0, post), got >> (3 * post) & 7);
            }
            for (int day = 1; day < 10; day++) {
                for (int post = 0; post < 4; post++) {
                    due(11, "other days stay", x.postOf(day, post), 6);
                }
            }
        }
    }

    private static void zOnlyByDraws() {
        for (int kind : new int[] {TURN, REST, AS_TOLD}) {
            TillPairs x = planned(8, kind, 0);
            x.seed(LEAST);
            x.fill(0, 3);
            due(30, "z by kind " + kind, x.seed(1), LEAST);
        }
    }

    private static void seedAnything() {
        TillPairs x = new TillPairs();
        int was = 1;
        for (int v : new int[] {0, -1, LEAST, MOST, -3, 1}) {
            due(30, "z was", x.seed(v), was);
            was = v;
        }
    }

    // ---- promises 31 to 34

    private static void rowsNone() {
        TillPairs x = with(2);
        due(34, "no rows", x.judge(), 0);
        due(43, "no rows", x.many(3), 0);
        for (int i = -1; i <= 10; i++) {
            for (int what = -1; what <= 3; what++) {
                due(32, "none", x.row(i, what), -9);
                due(33, "none", x.alterRow(i, what, 1), -9);
            }
        }
        due(34, "still none", x.judge(), 0);
        due(31, "ten", x.prove(), 10);
        due(34, "all right", x.judge(), 0);
        x.house();
        due(34, "none again", x.judge(), 0);
        due(32, "none again", x.row(0, 0), -9);
        due(33, "none again", x.alterRow(9, 2, 5), -9);
    }

    private static void rowsWritten() {
        TillPairs x = with(8);
        due(31, "ten", x.prove(), 10);
        for (int day = 0; day < 10; day++) {
            due(32, "nobody sits", x.row(day, 0), -1);
            due(32, "nobody is seen", x.row(day, 1), 0);
            due(32, "nothing is broken", x.row(day, 2), 0);
        }
        till(x, 0, 1, 0);
        till(x, 9, 6, 7);
        x.surprise(9, true);
        x.surprise(5, true);
        x.away(3, 5, true);
        x.post(5, 0, 3);
        x.kin(6, 7, true);
        seat(x, 4, 4, 4, -1, -1);
        for (int day = 0; day < 10; day++) {
            due(32, "as they were proved", x.row(day, 0), -1);
        }
        due(31, "ten", x.prove(), 10);
        due(43, "ten", x.many(3), 10);
        int[] sit = {1, -1, -1, -1, -1, -1, -1, -1, -1, 55};
        int[] seen = {2, 0, 0, 0, 0, 0, 0, 0, 0, 8};
        int[] broken = {0, 0, 0, 0, 2, 1, 0, 0, 0, 3};
        for (int day = 0; day < 10; day++) {
            due(32, "who sit on " + day, x.row(day, 0), sit[day]);
            due(32, "seen on " + day, x.row(day, 1), seen[day]);
            due(32, "broken on " + day, x.row(day, 2), broken[day]);
        }
        due(34, "all is right", x.judge(), 0);
    }

    private static void rowsEdges() {
        TillPairs x = with(2);
        till(x, 0, 0, 1);
        x.prove();
        for (int no : NO_DAYS) {
            for (int what = 0; what < 3; what++) {
                due(32, "row " + no, x.row(no, what), -9);
                due(33, "row " + no, x.alterRow(no, what, 77), -9);
            }
        }
        for (int what : new int[] {-1, 3, LEAST, MOST}) {
            for (int i = 0; i < 10; i++) {
                due(32, "what " + what, x.row(i, what), -9);
                due(33, "what " + what, x.alterRow(i, what, 77), -9);
            }
        }
        due(34, "nothing was altered", x.judge(), 0);
        due(32, "nothing was altered", x.row(0, 0), 1);
    }

    private static void rowsAltered() {
        TillPairs x = with(2);
        x.prove();
        for (int i = 0; i < 10; i++) {
            for (int what = 0; what < 3; what++) {
                int was = what == 0 ? -1 : 0;
                due(33, "what it was", x.alterRow(i, what, LEAST), was);
                due(34, "row " + i + " isn't right", x.judge(), i + 1);
                due(33, "any number", x.alterRow(i, what, MOST), LEAST);
                due(32, "any number", x.row(i, what), MOST);
                due(34, "row " + i + " isn't right", x.judge(), i + 1);
                due(33, "one beside it", x.alterRow(i, what, was + 1), MOST);
                due(34, "row " + i + " isn't right", x.judge(), i + 1);
                due(33, "one beside it", x.alterRow(i, what, was - 1), was + 1);
                due(34, "row " + i + " isn't right", x.judge(), i + 1);
                due(33, "back", x.alterRow(i, what, was), was - 1);
                due(34, "right again", x.judge(), 0);
            }
        }
    }

    private static void judgeFirst() {
        TillPairs x = with(2);
        x.prove();
        for (int i = 9; i >= 0; i--) {
            x.alterRow(i, i % 3, 50);
            due(34, "the first that isn't", x.judge(), i + 1);
        }
        for (int i = 0; i < 10; i++) {
            due(34, "the first that isn't", x.judge(), i + 1);
            x.alterRow(i, i % 3, i % 3 == 0 ? -1 : 0);
        }
        due(34, "all right", x.judge(), 0);
    }

    /** A row is as it must be by the house of now, not by that of prove(). */
    private static void judgeByHouse() {
        TillPairs x = with(4);
        till(x, 7, 0, 1);
        x.prove();
        x.post(9, 2, 3);
        due(34, "no part of a row", x.judge(), 0);
        x.away(3, 9, true);
        due(34, "broken now", x.judge(), 10);
        x.post(7, 3, 2);
        due(34, "seen now", x.judge(), 8);
        till(x, 3, 0, 2);
        due(34, "who sit now", x.judge(), 4);
        x.alterRow(3, 0, 2);
        x.alterRow(3, 1, 2);
        due(34, "altered to what it must be", x.judge(), 8);
        x.alterRow(7, 1, 6);
        due(34, "altered to what it must be", x.judge(), 10);
        x.alterRow(9, 2, 1);
        due(34, "altered to what it must be", x.judge(), 0);
        x.trust(0, 1, 9);
        x.set(FADE, 0);
        due(34, "it pays now", x.judge(), 8);
        x.prove();
        due(34, "proved anew", x.judge(), 0);
        due(32, "proved anew", x.row(7, 2), 5);
    }

    private static void rowsThatStay() {
        TillPairs x = with(2);
        x.keep();
        till(x, 0, 0, 1);
        x.prove();
        x.again();
        due(45, "rows stay", x.row(0, 0), 1);
        due(34, "they are of another house", x.judge(), 1);
        feedText(x, "person;!");
        due(3, "a fault", x.house(), -107);
        due(3, "rows stay by a fault", x.row(0, 0), 1);
    }
}
