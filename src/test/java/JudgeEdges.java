import java.math.BigInteger;

/** The boundaries of TRUST, SEEN, WORTH, BEST, BROKEN, MENDED, AHEAD, BY LOT, SUSPECTS: promises 14 to 26. */
public final class JudgeEdges extends Checks {
    private static final int[] NO_SEVENTH = {-1, 6, 7, 8, LEAST, MOST};

    public static void main(String[] args) {
        trustGrows();
        trustFades();
        trustAheadAlone();
        trustRefused();
        whoSits();
        seenAddsUp();
        seenAtMostTwelve();
        seenKin();
        worthEnds();
        paysAboveZero();
        paysAboveTell();
        paysByBits();
        bestEnds();
        bestTakesOrNot();
        bestOfTenDays();
        bestRefused();
        enoughEdges();
        neededEdges();
        brokenFirstFits();
        brokenGap();
        brokenByPosts();
        brokenPays();
        mendedNone();
        mendedFewest();
        mendedFirst();
        mendedNotBroken();
        mendedAsks();
        aheadRanges();
        aheadPeople();
        aheadPosts();
        aheadGap();
        aheadTrust();
        lotEnds();
        lotCounts();
        satEdges();
        suspectsEdges();
        askingChangesNothing();
        end();
    }

    // ---- promise 14

    private static void trustGrows() {
        TillPairs x = with(3);
        x.set(FADE, 0);
        x.trust(0, 1, 0);
        for (int day = 0; day < 10; day++) {
            till(x, day, day % 2, 1 - day % 2);
        }
        for (int day = 0; day < 10; day++) {
            due(14, "one more a day, on " + day, x.trustOn(0, 1, day), day);
            due(14, "the other way round", x.trustOn(1, 0, day), day);
            due(14, "others", x.trustOn(2, 0, day), 0);
        }
        for (int first = 1; first <= 9; first++) {
            x.trust(0, 1, first);
            for (int day = 0; day < 10; day++) {
                due(14, "9 at most, from " + first, x.trustOn(0, 1, day), Math.min(9, first + day));
            }
        }
    }

    private static void trustFades() {
        for (int fade = 0; fade <= 3; fade++) {
            TillPairs x = with(2);
            x.set(FADE, fade);
            for (int first = 0; first <= 9; first++) {
                x.trust(0, 1, first);
                for (int day = 0; day < 10; day++) {
                    int want = Math.max(0, first - fade * day);
                    due(14, "from " + first + " less " + fade, x.trustOn(0, 1, day), want);
                }
            }
        }
        TillPairs x = with(2);
        x.set(FADE, 3);
        x.trust(0, 1, 9);
        till(x, 0, 0, 1);
        till(x, 4, 0, 1);
        int[] want = {9, 9, 6, 3, 0, 1, 0, 0, 0, 0};
        for (int day = 0; day < 10; day++) {
            due(14, "up and down, day " + day, x.trustOn(0, 1, day), want[day]);
        }
    }

    /** Only DAYS ahead of it count, and only days on which these two are at both posts. */
    private static void trustAheadAlone() {
        TillPairs x = with(3);
        x.trust(0, 1, 4);
        x.set(FADE, 0);
        for (int day = 5; day < 10; day++) {
            till(x, day, 0, 1);
        }
        due(14, "days behind", x.trustOn(0, 1, 5), 4);
        due(14, "a day ahead", x.trustOn(0, 1, 6), 5);
        till(x, 0, 0, -1);
        till(x, 1, -1, 1);
        till(x, 2, 0, 0);
        till(x, 3, 0, 2);
        seat(x, 4, -1, -1, 0, 1);
        due(14, "no such sitting", x.trustOn(0, 1, 5), 4);
    }

    private static void trustRefused() {
        TillPairs x = with(6);
        x.trust(0, 5, 7);
        due(14, "day 9", x.trustOn(0, 5, 9), 0);
        due(14, "day 0", x.trustOn(5, 0, 0), 7);
        for (int no : NO_DAYS) {
            due(14, "day " + no, x.trustOn(0, 5, no), BAD);
        }
        for (int no : NO_SEVENTH) {
            due(14, "trustOn(" + no + ", 0)", x.trustOn(no, 0, 0), BAD);
            due(14, "trustOn(0, " + no + ")", x.trustOn(0, no, 0), BAD);
        }
        due(14, "the same", x.trustOn(5, 5, 0), BAD);
        due(14, "the same", x.trustOn(0, 0, 0), BAD);
    }

    // ---- promises 15 to 17

    private static void whoSits() {
        TillPairs x = with(4);
        for (int day = 0; day < 10; day += 9) {
            due(15, "nobody", x.seen(day), NONE);
            due(16, "nobody", x.worth(day), NONE);
            seat(x, day, 0, -1, 2, 3);
            due(15, "post 0 alone", x.seen(day), NONE);
            due(16, "post 0 alone", x.worth(day), NONE);
            seat(x, day, -1, 1, 2, 3);
            due(15, "post 1 alone", x.seen(day), NONE);
            due(16, "post 1 alone", x.worth(day), NONE);
            seat(x, day, 1, 1, 2, 3);
            due(15, "one at both", x.seen(day), NONE);
            due(16, "one at both", x.worth(day), NONE);
            seat(x, day, 0, 0, 2, 3);
            due(15, "person 0 at both", x.seen(day), NONE);
            due(16, "person 0 at both", x.worth(day), NONE);
            seat(x, day, 1, 0, -1, -1);
            due(15, "two", x.seen(day), 2);
            due(16, "two", x.worth(day), 10000 - 60);
        }
        due(43, "days on which two sit", x.many(2), 2);
        for (int no : NO_DAYS) {
            due(15, "day " + no, x.seen(no), BAD);
            due(16, "day " + no, x.worth(no), BAD);
        }
    }

    private static void seenAddsUp() {
        for (int set = 0; set < 16; set++) {
            TillPairs x = with(4);
            laws(x, 5, 30, (set & 1) != 0 ? 1 : 0, 2, 3);
            seat(x, 9, 0, 1, (set & 4) != 0 ? 3 : -1, (set & 2) != 0 ? 2 : -1);
            x.surprise(9, (set & 8) != 0);
            int want = (set & 1) + ((set & 2) != 0 ? 2 : 0) + ((set & 4) != 0 ? 3 : 0) + ((set & 8) != 0 ? 6 : 0);
            due(15, "parts " + set, x.seen(9), want);
        }
        TillPairs x = with(4);
        laws(x, 5, 30, 0, 0, 0);
        seat(x, 0, 0, 1, 2, 3);
        due(15, "0 at least", x.seen(0), 0);
        x.surprise(1, true);
        due(15, "a surprise on another day", x.seen(0), 0);
    }

    private static void seenAtMostTwelve() {
        for (int eye = 0; eye <= 12; eye++) {
            for (int counter = 0; counter <= 12; counter += 3) {
                TillPairs x = with(4);
                laws(x, 5, 30, eye, counter, 2);
                seat(x, 0, 0, 1, 2, 3);
                int sum = eye + counter + 2;
                due(15, eye + " and " + counter + " and 2", x.seen(0), Math.min(12, sum));
                x.surprise(0, true);
                due(15, "and 6", x.seen(0), Math.min(12, sum + 6));
                due(16, "worth by it", x.worth(0), 10000 - 30 * Math.min(12, sum + 6));
            }
        }
    }

    private static void seenKin() {
        for (int post = 2; post <= 3; post++) {
            TillPairs x = with(4);
            laws(x, 5, 30, 0, 4, 4);
            seat(x, 0, 1, 0, -1, -1);
            x.post(0, post, 2);
            due(15, "kin of neither", x.seen(0), 4);
            x.kin(2, 3, true);
            due(15, "kin of another one", x.seen(0), 4);
            x.kin(2, 0, true);
            due(15, "kin of one", x.seen(0), 0);
            x.kin(2, 1, true);
            due(15, "kin of both", x.seen(0), 0);
            x.kin(2, 0, false);
            due(15, "kin of the other one", x.seen(0), 0);
            x.kin(2, 1, false);
            x.kin(0, 1, true);
            due(15, "the two are kin", x.seen(0), 4);
            x.post(0, post, 0);
            due(15, "one of them, kin of the other", x.seen(0), 0);
            x.kin(0, 1, false);
            due(15, "one of them, kin of neither", x.seen(0), 4);
            x.away(0, 0, true);
            due(15, "away or not", x.seen(0), 4);
        }
        TillPairs x = with(4);
        laws(x, 5, 30, 0, 4, 1);
        seat(x, 0, 0, 1, 2, 3);
        x.kin(2, 3, true);
        due(15, "kin of each other at book and count", x.seen(0), 5);
    }

    private static void worthEnds() {
        TillPairs x = with(2);
        till(x, 9, 0, 1);
        till(x, 0, 1, 0);
        laws(x, 20, 99, 12, 0, 0);
        due(16, "the least", x.worth(0), 10000 - 99 * 12);
        x.trust(0, 1, 9);
        x.set(FADE, 0);
        x.set(EYE, 0);
        due(16, "the most", x.worth(0), 12160);
        due(16, "the most on the last day", x.worth(9), 12160);
        x.set(TAKE, 0);
        due(16, "nothing", x.worth(9), 10000);
    }

    private static void paysAboveZero() {
        TillPairs x = with(2);
        till(x, 3, 0, 1);
        x.set(FADE, 0);
        x.trust(0, 1, 1);
        for (int pain = 10; pain <= 13; pain++) {
            laws(x, 1, pain, 1, 0, 0);
            due(16, "12 less " + pain, x.worth(3), 10012 - pain);
            due(17, "12 less " + pain, x.pays(), pain < 12 ? 8 : 0);
            due(21, "12 less " + pain, x.broken(3), pain < 12 ? 5 : 0);
            due(19, "12 less " + pain, x.enough(), pain < 12 ? 1 : 0);
        }
    }

    private static void paysAboveTell() {
        TillPairs x = with(2);
        till(x, 0, 0, 1);
        for (int tell = 1; tell <= 89; tell += 11) {
            x.set(TELL, tell);
            for (int worth = 24 * tell - 1; worth <= 24 * tell + 1; worth++) {
                x.trust(0, 1, 9);
                int take = Math.min(20, worth / 108 + 1);
                laws(x, take, 108 * take - worth, 1, 0, 0);
                if (108 * take - worth <= 99) {
                    due(16, "worth", x.worth(0), 10000 + worth);
                    due(17, "worth " + worth + ", tell " + tell, x.pays(), worth > 24 * tell ? 1 : 0);
                    due(21, "worth " + worth + ", tell " + tell, x.broken(0), worth > 24 * tell ? 5 : 0);
                }
            }
        }
        laws(x, 20, 0, 0, 0, 0);
        x.set(TELL, 99);
        due(17, "the most by the most tell", x.pays(), 0);
        x.set(TELL, 90);
        due(17, "2160 by 90", x.pays(), 0);
        x.set(TELL, 89);
        due(17, "2160 by 89", x.pays(), 1);
    }

    private static void paysByBits() {
        for (int set = 0; set < 1024; set += 33) {
            TillPairs x = with(2);
            laws(x, 20, 1, 1, 0, 0);
            x.set(FADE, 0);
            x.trust(0, 1, 9);
            for (int day = 0; day < 10; day++) {
                till(x, day, 0, (set >> day & 1) != 0 ? 1 : -1);
            }
            due(17, "a set", x.pays(), set);
            due(20, "a set", x.needed(), set == 0 ? 0 : NONE);
            due(25, "a set", x.sat(1, 0), set);
            due(43, "how many", x.many(2), Integer.bitCount(set));
        }
    }

    // ---- promise 18

    private static void bestIs(TillPairs x, String what, long above, long below) {
        due(18, what + ", above", x.best(0, 1, 0), above);
        due(18, what + ", below", x.best(0, 1, 1), below);
        due(18, what + ", above, turned round", x.best(1, 0, 0), above);
        due(18, what + ", below, turned round", x.best(1, 0, 1), below);
    }

    private static void bestEnds() {
        TillPairs x = with(3);
        x.set(FADE, 0);
        x.trust(0, 1, 9);
        bestIs(x, "they never sit", 0, 1);
        till(x, 4, 0, 2);
        bestIs(x, "one sits with another", 0, 1);
        for (int day = 0; day < 10; day++) {
            till(x, day, 0, 1);
        }
        laws(x, 20, 99, 0, 0, 0);
        bestIs(x, "never seen", 1800, 1);
        x.set(EYE, 12);
        bestIs(x, "always seen", 0, 1);
        laws(x, 0, 0, 0, 0, 0);
        bestIs(x, "nothing to take", 0, 1);
        laws(x, 0, 99, 0, 0, 0);
        bestIs(x, "nothing to take, never seen", 0, 1);
        laws(x, 20, 0, 12, 0, 0);
        bestIs(x, "always seen, without pain", 0, 1);
    }

    /** One day: half of what they take less half of the pain. */
    private static void bestTakesOrNot() {
        for (int day = 0; day < 10; day += 9) {
            TillPairs x = with(2);
            x.set(FADE, 0);
            till(x, day, 0, 1);
            x.trust(0, 1, 5);
            laws(x, 2, 9, 6, 0, 0);
            bestIs(x, "10 and 9", 1, 2);
            x.set(PAIN, 10);
            bestIs(x, "10 and 10", 0, 1);
            x.set(PAIN, 11);
            bestIs(x, "10 and 11", 0, 1);
            x.set(PAIN, 8);
            bestIs(x, "10 and 8", 1, 1);
            x.surprise(day, true);
            bestIs(x, "surely seen", 0, 1);
        }
        TillPairs x = with(2);
        till(x, 0, 0, 1);
        till(x, 9, 0, 1);
        x.set(FADE, 0);
        x.trust(0, 1, 1);
        laws(x, 10, 10, 6, 0, 0);
        // day 9: (20 - 10) / 2 = 5; day 0: (10 + 5 - 10) / 2 is less than 5
        bestIs(x, "the last day alone", 5, 1);
        x.set(PAIN, 5);
        // day 9: 15 / 2; day 0: (10 + 15 / 2 - 5) / 2 = 25 / 4 is less
        bestIs(x, "the last day alone", 15, 2);
        x.set(PAIN, 0);
        // day 9: 10; day 0: (10 + 10) / 2 is as much
        bestIs(x, "as much either way", 10, 1);
        x.set(EYE, 3);
        // day 9: 15; day 0: 3 * (10 + 15) / 4
        bestIs(x, "both days", 75, 4);
    }

    private static void bestOfTenDays() {
        for (int eye = 1; eye <= 11; eye += 2) {
            for (int pain = 0; pain <= 99; pain += 33) {
                TillPairs x = with(2);
                x.trust(0, 1, 3);
                laws(x, 7, pain, eye, 0, 0);
                for (int day = 0; day < 10; day++) {
                    till(x, day, 0, 1);
                }
                BigInteger above = BigInteger.ZERO, below = BigInteger.ONE;
                for (int day = 9; day >= 0; day--) {
                    BigInteger taken = BigInteger.valueOf(7 * Math.min(9, 3 + day)).multiply(below).add(above);
                    BigInteger go = taken.multiply(BigInteger.valueOf(12 - eye))
                            .subtract(BigInteger.valueOf((long) pain * eye).multiply(below));
                    above = above.multiply(BigInteger.valueOf(12)).max(go);
                    below = below.multiply(BigInteger.valueOf(12));
                }
                BigInteger common = above.gcd(below);
                bestIs(x, "eye " + eye + ", pain " + pain, above.divide(common).longValueExact(),
                        below.divide(common).longValueExact());
            }
        }
    }

    private static void bestRefused() {
        TillPairs x = with(6);
        for (int no : NO_SEVENTH) {
            due(18, "best(" + no + ", 0)", x.best(no, 0, 0), BAD);
            due(18, "best(0, " + no + ")", x.best(0, no, 1), BAD);
            due(24, "lot(" + no + ", 0)", x.lot(no, 0, 0), BAD);
            due(24, "lot(0, " + no + ")", x.lot(0, no, 1), BAD);
            due(25, "sat(" + no + ", 0)", x.sat(no, 0), BAD);
            due(25, "sat(0, " + no + ")", x.sat(0, no), BAD);
        }
        for (int part : new int[] {-1, 2, LEAST, MOST}) {
            due(18, "part " + part, x.best(0, 1, part), BAD);
            due(24, "part " + part, x.lot(0, 1, part), BAD);
        }
        for (int p = 0; p < 6; p += 5) {
            due(18, "the same", x.best(p, p, 0), BAD);
            due(24, "the same", x.lot(p, p, 0), BAD);
            due(25, "the same", x.sat(p, p), BAD);
        }
        due(18, "the last two", x.best(5, 4, 1), 1);
        due(24, "the last two", x.lot(5, 4, 1), 1);
        due(25, "the last two", x.sat(5, 4), 0);
    }

    // ---- promises 19 and 20

    private static void enoughEdges() {
        TillPairs x = with(2);
        till(x, 9, 0, 1);
        x.set(FADE, 0);
        x.trust(0, 1, 9);
        x.set(TAKE, 0);
        due(19, "it pays on no day", x.enough(), 0);
        for (int take = 1; take <= 20; take++) {
            for (int pain = 11; pain <= 13; pain++) {
                laws(x, take, pain, 12, 0, 0);
                int worth = 108 * take - 12 * pain;
                due(19, "worth " + worth, x.enough(), worth <= 0 ? 0 : (worth + 23) / 24);
            }
        }
        for (int tell = 0; tell <= 99; tell += 33) {
            laws(x, 20, 0, 0, 0, 0);
            x.set(TELL, tell);
            due(19, "the most, whatever TELL is", x.enough(), 90);
            due(9, "TELL stays", x.law(TELL), tell);
        }
    }

    private static TillPairs needing(int pain) {
        TillPairs x = with(4);
        laws(x, 1, pain, 0, 0, 0);
        x.set(FADE, 0);
        x.trust(0, 1, 1);
        till(x, 0, 0, 1);
        till(x, 9, 1, 0);
        return x;
    }

    private static void neededEdges() {
        // day 0: 12 less 6 by PAIN with a surprise; day 9: 24 less that
        due(20, "24 is not above 24", needing(4).needed(), 1 | 512);
        due(20, "12 less 12, 24 less 12", needing(2).needed(), NONE);
        TillPairs x = needing(2);
        till(x, 9, 0, -1);
        due(20, "12 less 12 pays no more", x.needed(), 1);
        x.set(PAIN, 1);
        due(20, "12 less 6 pays still", x.needed(), NONE);
        x.set(TELL, 1);
        due(20, "12 is not above 24", x.needed(), 0);
        for (int set = 0; set < 4; set++) {
            x = needing(4);
            x.surprise(0, (set & 1) != 0);
            x.surprise(9, (set & 2) != 0);
            due(20, "as if no day had one, " + set, x.needed(), 1 | 512);
            due(20, "the surprises stay", x.surprise(0, false) + 2 * x.surprise(9, false), set);
        }
        x = needing(4);
        x.set(EYE, 12);
        due(20, "seen 12 either way: it pays on no day", x.needed(), 0);
        x.set(PAIN, 0);
        due(20, "a surprise is no pain", x.needed(), NONE);
        x.set(TAKE, 0);
        due(20, "it pays on no day at all", x.needed(), 0);
    }

    // ---- promise 21

    /** A day on which all five are broken; one after another is mended. */
    private static void brokenFirstFits() {
        for (int mended = 0; mended < 32; mended++) {
            TillPairs x = with(5);
            laws(x, 20, 0, 0, 0, 0);
            x.trust(0, 1, 9);
            till(x, 7, 0, 1);
            till(x, 8, 0, 1);
            x.away(4, 8, true);
            x.post(8, 2, (mended & 1) == 0 ? 4 : -1);
            if ((mended & 2) == 0) {
                x.post(8, 3, 1);
            }
            x.kin(0, 1, (mended & 4) == 0);
            x.set(GAP, (mended & 8) == 0 ? 1 : 0);
            x.set(TAKE, (mended & 16) == 0 ? 20 : 0);
            int want = Integer.numberOfTrailingZeros(~mended) + 1;
            due(21, "mended " + mended, x.broken(8), want > 5 ? 0 : want);
        }
        TillPairs x = with(1);
        for (int no : NO_DAYS) {
            due(21, "day " + no, x.broken(no), BAD);
        }
    }

    private static void brokenGap() {
        for (int gap = 0; gap <= 9; gap++) {
            for (int day = 1; day < 10; day++) {
                TillPairs x = with(3);
                x.set(TAKE, 0);
                x.set(GAP, gap);
                till(x, day, 0, 1);
                for (int other = 0; other < 10; other++) {
                    if (other != day) {
                        till(x, other, 1, 0);
                        boolean in = other < day && day - other <= gap;
                        due(21, "gap " + gap + ", " + other + " and " + day, x.broken(day), in ? 4 : 0);
                        till(x, other, 2, 0);
                        due(21, "others", x.broken(day), 0);
                        till(x, other, 0, -1);
                    }
                }
            }
        }
    }

    private static void brokenByPosts() {
        for (int post = 0; post < 4; post++) {
            for (int day = 0; day < 10; day += 9) {
                TillPairs x = with(8);
                x.post(day, post, 7);
                due(21, "one alone", x.broken(day), 0);
                x.away(7, 9 - day, true);
                x.away(6, day, true);
                due(21, "away on another day, another one away", x.broken(day), 0);
                x.away(7, day, true);
                due(21, "away", x.broken(day), 1);
                x.away(7, day, false);
                for (int other = 0; other < 4; other++) {
                    if (other != post) {
                        x.post(day, other, 7);
                        due(21, "at " + post + " and " + other, x.broken(day), 2);
                        x.post(day, other, 0);
                        due(21, "not he at " + other, x.broken(day), 0);
                        x.post(day, other, -1);
                    }
                }
            }
        }
        TillPairs x = with(4);
        x.kin(0, 1, true);
        seat(x, 0, 0, -1, 1, -1);
        due(21, "kin, but they do not sit", x.broken(0), 0);
        seat(x, 0, 2, 3, 0, 1);
        due(21, "kin at book and count", x.broken(0), 0);
        seat(x, 0, 1, 0, 2, 3);
        due(21, "kin sit", x.broken(0), 3);
    }

    private static void brokenPays() {
        TillPairs x = with(3);
        laws(x, 1, 12, 1, 0, 0);
        x.set(FADE, 0);
        x.trust(0, 1, 1);
        till(x, 9, 0, 1);
        due(21, "12 less 12", x.broken(9), 0);
        x.set(PAIN, 11);
        due(21, "12 less 11", x.broken(9), 5);
        x.surprise(9, true);
        due(21, "12 less 77", x.broken(9), 0);
    }

    // ---- promise 22

    private static void mendedIs(TillPairs x, int day, int posts, int who) {
        due(22, "how many posts", x.mended(day, 0), posts);
        due(22, "who is at them", x.mended(day, 1), who);
    }

    private static void mendedNone() {
        for (int people = 0; people <= 8; people++) {
            TillPairs x = with(people);
            mendedIs(x, 0, people < 4 ? NONE : 4, people < 4 ? NONE : digits(0, 1, 2, 3));
            for (int gone = 0; gone < people; gone++) {
                x.away(gone, 9, true);
                int left = people - gone - 1;
                int g = gone + 1;
                mendedIs(x, 9, left < 4 ? NONE : 4, left < 4 ? NONE : digits(g, g + 1, g + 2, g + 3));
            }
        }
        TillPairs x = with(4);
        for (int p = 0; p < 4; p++) {
            for (int q = 0; q < p; q++) {
                x.kin(p, q, true);
            }
        }
        mendedIs(x, 5, NONE, NONE);
        x.kin(3, 2, false);
        mendedIs(x, 5, 4, digits(2, 3, 0, 1));
    }

    private static void mendedFewest() {
        TillPairs x = with(8);
        seat(x, 4, 7, 6, 5, 4);
        mendedIs(x, 4, 0, digits(7, 6, 5, 4));
        for (int post = 0; post < 4; post++) {
            TillPairs y = with(8);
            int[] who = {7, 6, 5, 4};
            seat(y, 4, 7, 6, 5, 4);
            y.post(4, post, -1);
            who[post] = 0;
            mendedIs(y, 4, 1, digits(who[0], who[1], who[2], who[3]));
            y.away(0, 4, true);
            who[post] = 1;
            mendedIs(y, 4, 1, digits(who[0], who[1], who[2], who[3]));
            y.post(4, post, 0);
            mendedIs(y, 4, 1, digits(who[0], who[1], who[2], who[3]));
        }
        seat(x, 4, 7, 7, 7, 7);
        mendedIs(x, 4, 3, digits(0, 1, 2, 7));
        seat(x, 4, 7, 7, 6, 6);
        mendedIs(x, 4, 2, digits(0, 7, 1, 6));
        x.away(7, 4, true);
        x.away(6, 4, true);
        mendedIs(x, 4, 4, digits(0, 1, 2, 3));
        TillPairs z = with(8);
        for (int p = 0; p < 4; p++) {
            z.away(p, 0, true);
        }
        mendedIs(z, 0, 4, digits(4, 5, 6, 7));
        seat(z, 0, 4, 5, 6, 0);
        mendedIs(z, 0, 1, digits(4, 5, 6, 7));
    }

    /** Of several the first: by POST 0, then 1, 2, 3. */
    private static void mendedFirst() {
        TillPairs x = with(5);
        seat(x, 0, 0, 1, 2, 2);
        mendedIs(x, 0, 1, digits(0, 1, 2, 3));
        seat(x, 0, 0, 2, 1, 2);
        // (0 2 1 3) and (0 3 1 2), (0 4 1 2) change one: the one with the least at POST 1
        mendedIs(x, 0, 1, digits(0, 2, 1, 3));
        seat(x, 0, 3, 1, 2, 3);
        // (0 1 2 3) ahead of (3 1 2 0)
        mendedIs(x, 0, 1, digits(0, 1, 2, 3));
        seat(x, 0, 0, 3, 3, 1);
        // (0 2 3 1) ahead of (0 3 2 1)
        mendedIs(x, 0, 1, digits(0, 2, 3, 1));
        seat(x, 0, 0, 2, 3, 3);
        // (0 2 1 3) ahead of (0 2 3 1)
        mendedIs(x, 0, 1, digits(0, 2, 1, 3));
        x.kin(0, 1, true);
        seat(x, 0, -1, -1, -1, -1);
        mendedIs(x, 0, 4, digits(0, 2, 1, 3));
        seat(x, 0, 0, 1, 2, 3);
        mendedIs(x, 0, 1, digits(0, 4, 2, 3));
        seat(x, 0, 1, 0, 2, 3);
        mendedIs(x, 0, 1, digits(1, 4, 2, 3));
        x.kin(0, 1, false);
        mendedIs(x, 0, 0, digits(1, 0, 2, 3));
    }

    private static void mendedNotBroken() {
        for (int gap = 0; gap <= 3; gap++) {
            TillPairs x = with(4);
            x.set(TAKE, 0);
            x.set(GAP, gap);
            till(x, 6, 1, 0);
            seat(x, 8, 0, 1, 2, 3);
            mendedIs(x, 8, gap < 2 ? 0 : 2, gap < 2 ? digits(0, 1, 2, 3) : digits(0, 2, 1, 3));
        }
        TillPairs x = with(4);
        laws(x, 1, 12, 0, 1, 0);
        x.set(FADE, 0);
        x.trust(0, 1, 1);
        seat(x, 3, 0, 1, 2, 3);
        mendedIs(x, 3, 0, digits(0, 1, 2, 3));
        x.set(PAIN, 11);
        mendedIs(x, 3, 2, digits(0, 2, 1, 3));
        x.set(TELL, 1);
        mendedIs(x, 3, 0, digits(0, 1, 2, 3));
        x.set(TELL, 0);
        x.surprise(3, true);
        mendedIs(x, 3, 0, digits(0, 1, 2, 3));
        x.surprise(3, false);
        x.set(PAIN, 12);
        x.kin(3, 0, true);
        // 3 at THE COUNT is kin now and nothing is seen: 2 must count
        mendedIs(x, 3, 2, digits(0, 1, 3, 2));
        x.set(READER, 1);
        x.kin(3, 0, false);
        x.kin(2, 0, true);
        x.kin(3, 1, true);
        // each is kin of one who sits: neither is seen
        mendedIs(x, 3, 2, digits(0, 3, 2, 1));
    }

    private static void mendedAsks() {
        TillPairs x = with(3);
        for (int no : NO_DAYS) {
            due(22, "day " + no, x.mended(no, 0), BAD);
        }
        for (int what : new int[] {-1, 2, LEAST, MOST}) {
            due(22, "what " + what + ", and no way", x.mended(0, what), BAD);
        }
        x.person();
        for (int what : new int[] {-1, 2, LEAST, MOST}) {
            due(22, "what " + what, x.mended(0, what), BAD);
        }
        due(22, "the last day", x.mended(9, 0), 4);
    }

    // ---- promise 23

    private static void aheadRanges() {
        TillPairs x = with(2);
        x.set(GAP, 0);
        x.set(TAKE, 0);
        for (int day = 0; day < 10; day++) {
            for (int n = 1; n <= 3; n++) {
                due(23, "ahead(" + day + ", " + n + ")", x.ahead(day, n), day + n > 10 ? BAD : 1);
            }
            for (int n : new int[] {0, -1, 4, LEAST, MOST, MOST - day}) {
                due(23, "ahead(" + day + ", " + n + ")", x.ahead(day, n), BAD);
            }
        }
        for (int no : NO_DAYS) {
            for (int n = -1; n <= 4; n++) {
                due(23, "ahead(" + no + ", " + n + ")", x.ahead(no, n), BAD);
            }
        }
    }

    private static void aheadPeople() {
        for (int people = 0; people <= 8; people++) {
            TillPairs x = with(people);
            x.set(GAP, 0);
            x.set(TAKE, 0);
            int pairs = people * (people - 1) / 2;
            due(23, people + " people, a day", x.ahead(9, 1), pairs);
            due(23, people + " people, two days", x.ahead(8, 2), pairs * pairs);
            due(23, people + " people, three days", x.ahead(7, 3), pairs * pairs * pairs);
            for (int gone = 0; gone < people; gone++) {
                x.away(gone, 8, true);
                int left = (people - gone - 1) * (people - gone - 2) / 2;
                due(23, "some are away on the middle day", x.ahead(7, 3), pairs * left * pairs);
                due(23, "some are away on the first day", x.ahead(8, 1), left);
            }
        }
        TillPairs x = with(4);
        x.set(GAP, 0);
        x.set(TAKE, 0);
        x.kin(0, 1, true);
        x.kin(2, 3, true);
        due(23, "kin never sit", x.ahead(0, 2), 16);
    }

    /** THE TILL as it is counts nothing, THE BOOK and THE COUNT as they are do. */
    private static void aheadPosts() {
        TillPairs x = with(5);
        x.set(GAP, 0);
        x.set(TAKE, 0);
        seat(x, 4, 3, 3, -1, -1);
        x.away(3, 4, true);
        due(23, "one who is away twice at the till", x.ahead(4, 1), 6);
        x.away(3, 4, false);
        due(23, "twice at the till", x.ahead(4, 1), 10);
        x.post(4, 2, 4);
        due(23, "the book is busy", x.ahead(4, 1), 6);
        x.post(4, 3, 3);
        due(23, "the count too", x.ahead(4, 1), 3);
        x.post(4, 2, -1);
        due(23, "the count alone", x.ahead(4, 1), 6);
        x.post(4, 2, 3);
        due(23, "one at both", x.ahead(4, 1), 0);
        x.post(4, 2, 4);
        x.away(4, 4, true);
        due(23, "the book is away", x.ahead(4, 1), 0);
        x.away(4, 4, false);
        x.away(3, 4, true);
        due(23, "the count is away", x.ahead(4, 1), 0);
        due(23, "in a row too", x.ahead(3, 3), 0);
        due(23, "not in a row behind it", x.ahead(5, 1), 10);
        due(23, "nor ahead of it", x.ahead(1, 3), 1000);
    }

    private static void aheadGap() {
        for (int gap = 0; gap <= 9; gap++) {
            TillPairs x = with(3);
            x.set(TAKE, 0);
            x.set(GAP, gap);
            due(23, "a day, gap " + gap, x.ahead(0, 1), 3);
            due(23, "two days, gap " + gap, x.ahead(0, 2), gap >= 1 ? 3 * 2 : 3 * 3);
            due(23, "three days, gap " + gap, x.ahead(0, 3), gap >= 2 ? 3 * 2 : gap == 1 ? 3 * 2 * 2 : 3 * 3 * 3);
            for (int day = 1; day < 10; day++) {
                till(x, 0, 0, 1);
                due(23, "a sitting " + day + " ahead, gap " + gap, x.ahead(day, 1), day <= gap ? 2 : 3);
                till(x, 0, -1, -1);
                if (day < 9) {
                    till(x, 9, 0, 1);
                    due(23, "a sitting behind", x.ahead(day, 1), 3);
                    till(x, 9, -1, -1);
                }
            }
        }
        TillPairs x = with(4);
        x.set(TAKE, 0);
        x.set(GAP, 3);
        till(x, 2, 0, 1);
        // on day 5 (0 1) is in the gap, on day 6 it is out of it
        due(23, "the gap ends within the row", x.ahead(5, 2), 5 * 5);
        due(23, "the gap has ended", x.ahead(6, 2), 6 * 5);
    }

    /** Trust grows and fades along the row, whatever sits on its days now. */
    private static void aheadTrust() {
        TillPairs x = with(2);
        laws(x, 1, 12, 1, 0, 0);
        x.set(GAP, 0);
        x.set(FADE, 3);
        x.trust(0, 1, 4);
        due(23, "48 less 12 pays", x.ahead(0, 1), 0);
        due(23, "trust 1 on day 1: 12 less 12", x.ahead(1, 1), 1);
        due(23, "trust 2 on day 2", x.ahead(1, 2), 0);
        till(x, 0, 0, 1);
        due(23, "they sat on day 0: trust 5", x.ahead(1, 1), 0);
        till(x, 0, -1, -1);
        till(x, 1, 0, 1);
        due(23, "that they sit on day 1 is no matter", x.ahead(1, 1), 1);
        x.trust(0, 1, 0);
        x.surprise(1, true);
        due(23, "a surprise: 12 less 84 on day 1, 24 less 12 on day 2", x.ahead(0, 3), 0);
        x.surprise(2, true);
        due(23, "surprises on both", x.ahead(0, 3), 1);
        x.set(PAIN, 0);
        due(23, "trust 0 never pays", x.ahead(0, 1), 1);
        due(23, "trust 1 pays without pain", x.ahead(0, 2), 0);
        x.set(TELL, 1);
        due(23, "24 by 1 tell on day 2", x.ahead(0, 3), 1);
        TillPairs y = with(3);
        laws(y, 1, 0, 0, 0, 0);
        y.set(GAP, 0);
        y.set(FADE, 1);
        // (0 1) on day 0 has trust 1 on day 1 and, if it doesn't sit then, 0 again on day 2
        due(23, "it fades within the row", y.ahead(0, 3), 3 * 2 * 2);
        y.set(FADE, 0);
        due(23, "it does not fade", y.ahead(0, 3), 3 * 2 * 1);
    }

    // ---- promises 24 to 26

    private static void lotIs(TillPairs x, int p, int q, long above, long below) {
        due(24, "lot(" + p + ", " + q + ", 0)", x.lot(p, q, 0), above);
        due(24, "lot(" + p + ", " + q + ", 1)", x.lot(p, q, 1), below);
        due(24, "lot(" + q + ", " + p + ", 0)", x.lot(q, p, 0), above);
        due(24, "lot(" + q + ", " + p + ", 1)", x.lot(q, p, 1), below);
    }

    private static void lotEnds() {
        for (int people = 2; people <= 8; people++) {
            TillPairs x = with(people);
            long pairs = people * (people - 1) / 2;
            lotIs(x, 0, 1, 1, 1);
            long below = 1;
            for (int day = 0; day < 10; day++) {
                till(x, day, 1, 0);
                below *= pairs;
                lotIs(x, 0, 1, 1, below);
                if (people > 2) {
                    lotIs(x, people - 1, 0, 1, 1);
                }
            }
        }
        TillPairs x = with(3);
        till(x, 0, 0, -1);
        till(x, 1, 1, 1);
        seat(x, 2, -1, 2, 0, 1);
        lotIs(x, 0, 1, 1, 1);
        till(x, 9, 0, 2);
        lotIs(x, 0, 1, 1, 1);
        lotIs(x, 0, 2, 1, 3);
    }

    private static void lotCounts() {
        for (int people = 3; people <= 8; people++) {
            for (int theirs = 0; theirs <= 10; theirs++) {
                TillPairs x = with(people);
                for (int day = 0; day < 10; day++) {
                    till(x, day, day < theirs ? people - 1 : 0, day < theirs ? people - 2 : 1);
                }
                if (people == 3) {
                    for (int day = theirs; day < 10; day++) {
                        till(x, day, 0, 2);
                    }
                }
                BigInteger pairs = BigInteger.valueOf(people * (people - 1) / 2), sum = BigInteger.ZERO;
                BigInteger ways = BigInteger.ONE;
                for (int k = 0; k <= 10; k++) {
                    BigInteger one = ways.multiply(pairs.subtract(BigInteger.ONE).pow(10 - k));
                    sum = k >= theirs ? sum.add(one) : sum;
                    ways = ways.multiply(BigInteger.valueOf(10 - k)).divide(BigInteger.valueOf(k + 1));
                }
                BigInteger common = sum.gcd(pairs.pow(10));
                lotIs(x, people - 2, people - 1, sum.divide(common).longValueExact(),
                        pairs.pow(10).divide(common).longValueExact());
            }
        }
    }

    private static void satEdges() {
        TillPairs x = with(3);
        due(25, "never", x.sat(0, 2), 0);
        int set = 0;
        for (int day = 0; day < 10; day++) {
            till(x, day, day % 2 * 2, 2 - day % 2 * 2);
            set |= 1 << day;
            due(25, "up to day " + day, x.sat(0, 2), set);
            due(25, "others", x.sat(0, 1), 0);
            due(25, "others", x.sat(1, 2), 0);
            due(43, "days on which two sit", x.many(2), day + 1);
        }
        due(25, "all days", x.sat(2, 0), 1023);
        till(x, 0, 2, 2);
        till(x, 9, 0, -1);
        due(25, "all but the first and the last", x.sat(2, 0), 510);
    }

    private static void suspectsAre(TillPairs x, int who, int loss) {
        due(26, "who", x.suspects(0), who);
        due(26, "the loss", x.suspects(1), loss);
    }

    private static void suspectsEdges() {
        TillPairs x = new TillPairs();
        for (int people = 0; people < 2; people++) {
            suspectsAre(x, NONE, NONE);
            for (int what : new int[] {-1, 2, LEAST, MOST}) {
                due(26, "what " + what, x.suspects(what), BAD);
            }
            x.person();
        }
        suspectsAre(x, 1, 0);
        for (int i = 2; i < 8; i++) {
            x.person();
        }
        suspectsAre(x, 1, 0);
        for (int day = 0; day < 10; day++) {
            x.loss(day, 99);
        }
        suspectsAre(x, 1, 0);
        till(x, 9, 7, 6);
        suspectsAre(x, 8 * 6 + 7, 99);
        till(x, 0, 1, 7);
        suspectsAre(x, 8 + 7, 99);
        till(x, 1, 2, 1);
        suspectsAre(x, 8 + 2, 99);
        till(x, 2, 7, 0);
        suspectsAre(x, 7, 99);
        x.loss(9, 98);
        x.loss(2, 97);
        x.loss(1, 98);
        x.loss(0, 98);
        suspectsAre(x, 8 + 2, 98);
        for (int day = 0; day < 10; day++) {
            till(x, day, 6, 7);
            x.loss(day, 99);
        }
        suspectsAre(x, 8 * 6 + 7, 990);
        for (int day = 0; day < 10; day++) {
            till(x, day, 6, 6);
        }
        suspectsAre(x, 1, 0);
    }

    /** What only asks leaves POSTS, LAWS, SURPRISES and TRUST AT FIRST as they were. */
    private static void askingChangesNothing() {
        TillPairs x = with(6);
        for (int day = 0; day < 10; day++) {
            seat(x, day, day % 5, 5, (day + 1) % 5, (day + 2) % 5);
            x.surprise(day, day % 2 == 0);
            x.trust(day % 5, 5, day % 9);
        }
        x.trustOn(0, 5, 9);
        x.seen(3);
        x.worth(3);
        x.pays();
        x.best(0, 5, 0);
        x.enough();
        x.needed();
        x.broken(3);
        x.mended(3, 0);
        x.mended(3, 1);
        x.ahead(3, 3);
        x.lot(0, 5, 0);
        x.sat(0, 5);
        x.suspects(0);
        for (int day = 0; day < 10; day++) {
            int[] who = {day % 5, 5, (day + 1) % 5, (day + 2) % 5};
            for (int post = 0; post < 4; post++) {
                due(22, "post " + post + " of day " + day, x.postOf(day, post), who[post]);
            }
            due(20, "surprise on " + day, x.surprise(day, day % 2 == 0), 0);
        }
        int[] trust = {5, 6, 7, 8, 0};
        for (int p = 0; p < 5; p++) {
            due(14, "trust of " + p, x.trust(p, 5, 0), trust[p]);
        }
        for (int law = 0; law < 8; law++) {
            due(9, "law " + law, x.law(law), LAWS_AT_FIRST[law]);
        }
    }
}
