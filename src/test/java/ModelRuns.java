import java.math.BigInteger;
import java.util.ArrayList;
import java.util.List;

/**
 * Long runs of calls against a second, slow and plain writing of the document. The calls come from a fixed
 * row of numbers, so every run of this test is the same.
 */
public final class ModelRuns {
    private static final int RUNS = 400, CALLS = 480; // a text told at the end may add some: below 512 in all
    private static int wrong = 0;
    private static long state = 1;

    public static void main(String[] args) {
        for (int run = 0; run < RUNS; run++) {
            state = 77777L * run + 5;
            oneRun(run);
        }
        System.out.println(wrong == 0 ? "all runs agree with the model" : wrong + " answers differ from the model");
        if (wrong != 0) {
            System.exit(1);
        }
    }

    private static int below(int n) {
        state = state * 6364136223846793005L + 1442695040888963407L;
        return (int) ((state >>> 33) % n);
    }

    /** Mostly a number from 0 to n - 1, now and then one beside it. */
    private static int around(int n) {
        int r = below(40);
        if (r == 0) {
            return -1;
        }
        if (r == 1) {
            return n;
        }
        if (r == 2) {
            return below(2) == 0 ? Integer.MIN_VALUE : Integer.MAX_VALUE;
        }
        return below(n);
    }

    private static void same(int run, int call, String name, long got, long want) {
        if (got != want) {
            wrong++;
            if (wrong < 40) {
                System.out.println("run " + run + ", call " + call + ": " + name + " answered " + got
                        + ", the model says " + want);
            }
        }
    }

    private static String text(int people) {
        StringBuilder t = new StringBuilder();
        for (int i = 0; i < people; i++) {
            t.append(below(9) == 0 ? " person ;" : "person;");
        }
        int many = below(8);
        for (int i = 0; i < many; i++) {
            int p = below(Math.max(people, 1));
            int q = below(Math.max(people, 1));
            switch (below(5)) {
                case 0: t.append("kin ").append(p).append("  ").append(q).append(';'); break;
                case 1: t.append("trust ").append(p).append(' ').append(q).append(' ').append(below(11)).append(';'); break;
                case 2:
                    t.append("away ").append(p).append(" on ").append(below(10));
                    for (int j = below(3); j > 0; j--) {
                        t.append(" and 0").append(below(10));
                    }
                    t.append(" ; ");
                    break;
                default:
                    String[] names = {"take", "pain", "eye", "counter", "reader", "fade", "tell", "gap"};
                    int[] most = {20, 99, 12, 12, 12, 3, 99, 9};
                    int law = below(8);
                    t.append(names[law]).append(' ').append(below(most[law] + (below(6) == 0 ? 3 : 1))).append(';');
                    break;
            }
        }
        if (below(4) == 0 && t.length() > 0) {
            String signs = " ;0a9z!P\n\u00e9on";
            int at = below(t.length());
            if (below(2) == 0) {
                t.deleteCharAt(at);
            } else {
                t.setCharAt(at, signs.charAt(below(signs.length())));
            }
        }
        if (below(12) == 0) {
            t.setLength(below(t.length() + 1));
        }
        return t.toString();
    }

    private static int feedAll(int run, int call, TillPairs x, Model m, String text) {
        int calls = 0;
        for (int i = 0; i < text.length(); i += 8) {
            int n = Math.min(8, text.length() - i);
            long eight = below(1000);
            eight <<= 56;
            long bits = 0;
            for (int j = n - 1; j >= 0; j--) {
                bits = bits << 8 | text.charAt(i + j);
            }
            if (n < 8) {
                bits |= eight << 0 & -1L << 8 * n;
            }
            same(run, call + calls, "feed", x.feed(bits, n), m.feed(bits, n));
            calls++;
        }
        return calls;
    }

    private static void oneRun(int run) {
        TillPairs x = new TillPairs();
        Model m = new Model();
        int call = 0;
        if (run % 3 != 0) {
            call += feedAll(run, call, x, m, text(4 + below(5)));
            same(run, call, "house", x.house(), m.house());
        } else {
            int people = below(9);
            for (int i = 0; i < people; i++) {
                same(run, call++, "person", x.person(), m.person());
            }
        }
        if (run % 2 == 0) {
            call += sitAndTrust(run, call, x, m);
        }
        while (call < CALLS) {
            call += oneCall(run, call, x, m);
        }
    }

    /** Days on which two sit who trust each other, so that it may pay. */
    private static int sitAndTrust(int run, int call, TillPairs x, Model m) {
        int people = Math.min(m.people, 2 + below(3));
        int calls = 0;
        for (int p = 0; p < people; p++) {
            for (int q = 0; q < p; q++) {
                int v = below(10);
                same(run, call + calls++, "trust", x.trust(p, q, v), m.trust(p, q, v));
            }
        }
        for (int day = 0; day < 10; day++) {
            int p = below(people + 1) - 1, q = below(people + 1) - 1;
            same(run, call + calls++, "post", x.post(day, 0, p), m.post(day, 0, p));
            same(run, call + calls++, "post", x.post(day, 1, q), m.post(day, 1, q));
        }
        for (int law = 0; law < 8; law++) {
            int v = below(law == 0 ? 21 : law == 1 ? 60 : 4);
            same(run, call + calls++, "set", x.set(law, v), m.set(law, v));
        }
        for (int p = 0; p < people; p++) {
            for (int q = 0; q < p; q++) {
                same(run, call + calls++, "best", x.best(p, q, 0), m.best(p, q, 0));
                same(run, call + calls++, "best", x.best(p, q, 1), m.best(p, q, 1));
                same(run, call + calls++, "lot", x.lot(p, q, 0), m.lot(p, q, 0));
                same(run, call + calls++, "lot", x.lot(p, q, 1), m.lot(p, q, 1));
            }
        }
        return calls;
    }

    private static int oneCall(int run, int c, TillPairs x, Model m) {
        int p = around(8), q = around(8), d = around(10), k = around(4), w = around(3);
        if (m.people > 1 && below(3) != 0) {
            p = below(m.people);
            q = below(m.people);
        }
        switch (below(60)) {
            case 0:
                if (below(3) != 0) {
                    return 1;
                }
                int fed = feedAll(run, c, x, m, text(below(10)));
                same(run, c, "house", x.house(), m.house());
                return fed + 1;
            case 1: same(run, c, "person", x.person(), m.person()); break;
            case 2: { boolean b = below(3) == 0; same(run, c, "kin", x.kin(p, q, b), m.kin(p, q, b)); break; }
            case 3: { int v = around(10); same(run, c, "trust", x.trust(p, q, v), m.trust(p, q, v)); break; }
            case 4: { boolean b = below(3) == 0; same(run, c, "away", x.away(p, d, b), m.away(p, d, b)); break; }
            case 5: {
                int law = around(8);
                int v = law >= 0 && law < 8 ? around(Model.MOST[law] + 1) : 1;
                same(run, c, "set", x.set(law, v), m.set(law, v));
                break;
            }
            case 6: { int law = around(8); same(run, c, "law", x.law(law), m.law(law)); break; }
            case 7: case 8: case 9: case 10: case 11: case 12: {
                int who = below(7) == 0 ? -1 : p;
                same(run, c, "post", x.post(d, k, who), m.post(d, k, who));
                break;
            }
            case 13: same(run, c, "postOf", x.postOf(d, k), m.postOf(d, k)); break;
            case 14: { boolean b = below(2) == 0; same(run, c, "surprise", x.surprise(d, b), m.surprise(d, b)); break; }
            case 15: { int v = around(100); same(run, c, "loss", x.loss(d, v), m.loss(d, v)); break; }
            case 16: case 17: same(run, c, "trustOn", x.trustOn(p, q, d), m.trustOn(p, q, d)); break;
            case 18: same(run, c, "seen", x.seen(d), m.seen(d)); break;
            case 19: same(run, c, "worth", x.worth(d), m.worth(d)); break;
            case 20: same(run, c, "pays", x.pays(), m.pays()); break;
            case 21: case 22: same(run, c, "best", x.best(p, q, w), m.best(p, q, w)); break;
            case 23: same(run, c, "enough", x.enough(), m.enough()); break;
            case 24: same(run, c, "needed", x.needed(), m.needed()); break;
            case 25: case 26: same(run, c, "broken", x.broken(d), m.broken(d)); break;
            case 27: same(run, c, "mended", x.mended(d, w), m.mended(d, w)); break;
            case 28: {
                int n = below(9) == 0 ? 3 : around(4);
                same(run, c, "ahead", x.ahead(d, n), m.ahead(d, n));
                break;
            }
            case 29: same(run, c, "lot", x.lot(p, q, w), m.lot(p, q, w)); break;
            case 30: same(run, c, "sat", x.sat(p, q), m.sat(p, q)); break;
            case 31: same(run, c, "suspects", x.suspects(w), m.suspects(w)); break;
            case 32: case 33: {
                int kind = around(6), a = below(3) == 0 ? around(4096) : below(6);
                same(run, c, "plan", x.plan(kind, a), m.plan(kind, a));
                break;
            }
            case 34: same(run, c, "planOf", x.planOf(k, w), m.planOf(k, w)); break;
            case 35: case 36: case 37: case 38: same(run, c, "fill", x.fill(k, d), m.fill(k, d)); break;
            case 39: { int v = below(3) == 0 ? (int) state : 7; same(run, c, "seed", x.seed(v), m.seed(v)); break; }
            case 40: same(run, c, "prove", x.prove(), m.prove()); break;
            case 41: same(run, c, "row", x.row(d, w), m.row(d, w)); break;
            case 42: { int v = below(5); same(run, c, "alterRow", x.alterRow(d, w, v), m.alterRow(d, w, v)); break; }
            case 43: same(run, c, "judge", x.judge(), m.judge()); break;
            case 44: case 45: {
                int sort = around(5) - 1, n = below(9) == 0 ? -1 : around(41);
                same(run, c, "sheet", x.sheet(k, sort, n), m.sheet(k, sort, n));
                break;
            }
            case 46: case 47: {
                int i = below(4) == 0 ? around(40) : around(6), v = below(2) == 0 ? (int) state : around(9);
                same(run, c, "put", x.put(k, i, v), m.put(k, i, v));
                break;
            }
            case 48: { int i = around(12), s = around(4); same(run, c, "item", x.item(k, s, i), m.item(k, s, i)); break; }
            case 49: case 50: {
                int n = around(4), what = below(3) == 0 ? w : 0;
                same(run, c, "shelf", x.shelf(k, what, n), m.shelf(k, what, n));
                break;
            }
            case 51: { int as = around(15); same(run, c, "taken", x.taken(k, as), m.taken(k, as)); break; }
            case 52: case 53: {
                int a = around(4), v = below(2) == 0 ? (int) state : below(20);
                same(run, c, "act", x.act(k, a, v), m.act(k, a, v));
                break;
            }
            case 54: case 55: { int i = around(12); same(run, c, "trace", x.trace(i), m.trace(i)); break; }
            case 56: { int s = around(4); same(run, c, "days", x.days(k, s), m.days(k, s)); break; }
            case 57: { int what = around(6); same(run, c, "many", x.many(what), m.many(what)); break; }
            case 58: if (below(3) == 0) { same(run, c, "keep", x.keep(), m.keep()); } break;
            default: if (below(3) == 0) { same(run, c, "again", x.again(), m.again()); } break;
        }
        return 1;
    }

    /** The document once more: nothing is clever here, each way is walked and each day sat. */
    private static final class Model {
        static final int[] MOST = {20, 99, 12, 12, 12, 3, 99, 9};
        static final String[] LAW = {"take", "pain", "eye", "counter", "reader", "fade", "tell", "gap"};
        int people = 0;
        boolean[][] kin = new boolean[8][8];
        int[][] trust = new int[8][8];
        boolean[][] away = new boolean[8][10];
        int[] laws = {5, 30, 2, 4, 1, 1, 0, 2};
        int[][] posts = new int[10][4];
        boolean[] surprise = new boolean[10];
        int[] loss = new int[10];
        List<int[]> plans = new ArrayList<>();
        int z = 1;
        List<Integer> tape = new ArrayList<>();
        int[][] rows = null;
        Object[] sheets = new Object[4];
        Object[] shelves = new Object[4];
        List<Integer> trace = new ArrayList<>();
        Model kept = null;

        Model() {
            for (int[] day : posts) {
                java.util.Arrays.fill(day, -1);
            }
        }

        void copy(Model o) {
            people = o.people;
            laws = o.laws.clone();
            surprise = o.surprise.clone();
            loss = o.loss.clone();
            z = o.z;
            plans = new ArrayList<>(o.plans);
            for (int i = 0; i < 8; i++) {
                kin[i] = o.kin[i].clone();
                trust[i] = o.trust[i].clone();
                away[i] = o.away[i].clone();
            }
            for (int d = 0; d < 10; d++) {
                posts[d] = o.posts[d].clone();
            }
        }

        boolean who(int p) { return 0 <= p && p < people; }
        boolean two(int p, int q) { return who(p) && who(q) && p != q; }
        boolean day(int d) { return 0 <= d && d <= 9; }
        static boolean four(int i) { return 0 <= i && i <= 3; }

        int feed(long eight, int n) {
            if (n < 1 || n > 8) { return -1; }
            if (tape.size() + n > 200) { return -2; }
            for (int i = 0; i < n; i++) { tape.add((int) (eight >> 8 * i & 0xff)); }
            return tape.size();
        }

        int house() {
            StringBuilder t = new StringBuilder();
            for (int b : tape) { t.append((char) b); }
            tape.clear();
            Model fresh = new Model();
            fresh.laws = laws.clone();
            int fault = fresh.read(t.toString());
            if (fault >= 0) { return -100 - fault; }
            int[] ownLaws = fresh.laws;
            fresh.plans = plans;
            fresh.z = z;
            copy(fresh);
            laws = ownLaws.clone();
            rows = null;
            return people;
        }

        /** Words with their places first, then each statement held against its pattern. */
        int read(String t) {
            List<String> words = new ArrayList<>();
            List<Integer> places = new ArrayList<>();
            java.util.regex.Matcher w = java.util.regex.Pattern.compile("[a-z]+|[0-9]+|[^ ]", java.util.regex.Pattern.DOTALL).matcher(t);
            while (w.find()) {
                words.add(w.group());
                places.add(w.start());
            }
            words.add("");
            places.add(t.length());
            int i = 0;
            while (!words.get(i).isEmpty()) {
                String name = words.get(i);
                String pattern;
                int law = java.util.Arrays.asList(LAW).indexOf(name);
                if (name.equals("person") && people < 8) { pattern = ";"; }
                else if (name.equals("kin")) { pattern = "pq;"; }
                else if (name.equals("trust")) { pattern = "pqv;"; }
                else if (name.equals("away")) { pattern = "pod*"; }
                else if (law >= 0) { pattern = "l;"; }
                else { return places.get(i); }
                i++;
                List<Integer> n = new ArrayList<>();
                for (int j = 0; j < pattern.length(); j++) {
                    String word = words.get(i);
                    char c = pattern.charAt(j);
                    if (c == ';' && !word.equals(";")) { return places.get(i); }
                    if (c == 'o' && !word.equals("on")) { return places.get(i); }
                    if (c == '*') {
                        if (word.equals("and")) { j -= 2; } else if (!word.equals(";")) { return places.get(i); }
                    }
                    if ("pqvdl".indexOf(c) >= 0) {
                        if (!word.matches("[0-9]{1,2}")) { return places.get(i); }
                        int v = Integer.parseInt(word);
                        int limit = c == 'v' ? 9 : c == 'd' ? 9 : c == 'l' ? MOST[law] : people - 1;
                        if (v > limit || c == 'q' && v == n.get(0)) { return places.get(i); }
                        n.add(v);
                    }
                    i++;
                }
                if (name.equals("person")) { people++; }
                else if (name.equals("kin")) { kin[n.get(0)][n.get(1)] = kin[n.get(1)][n.get(0)] = true; }
                else if (name.equals("trust")) { trust[n.get(0)][n.get(1)] = trust[n.get(1)][n.get(0)] = n.get(2); }
                else if (name.equals("away")) { for (int d : n.subList(1, n.size())) { away[n.get(0)][d] = true; } }
                else { laws[law] = n.get(0); }
            }
            return -1;
        }

        int person() { return people == 8 ? -2 : people++; }

        int kin(int p, int q, boolean are) {
            if (!two(p, q)) { return -1; }
            int r = kin[p][q] == are ? 0 : 1;
            kin[p][q] = kin[q][p] = are;
            return r;
        }

        int trust(int p, int q, int v) {
            if (!two(p, q) || v < 0 || v > 9) { return -1; }
            int was = trust[p][q];
            trust[p][q] = trust[q][p] = v;
            return was;
        }

        int away(int p, int d, boolean is) {
            if (!who(p) || !day(d)) { return -1; }
            int r = away[p][d] == is ? 0 : 1;
            away[p][d] = is;
            return r;
        }

        int set(int law, int v) {
            if (law < 0 || law > 7 || v < 0 || v > MOST[law]) { return -1; }
            int was = laws[law];
            laws[law] = v;
            return was;
        }

        int law(int law) { return law < 0 || law > 7 ? -1 : laws[law]; }

        int post(int d, int post, int p) {
            if (!day(d) || !four(post) || p != -1 && !who(p)) { return -1; }
            int was = posts[d][post];
            posts[d][post] = p;
            return was < 0 ? -9 : was;
        }

        int postOf(int d, int post) {
            if (!day(d) || !four(post)) { return -1; }
            return posts[d][post] < 0 ? -9 : posts[d][post];
        }

        int surprise(int d, boolean is) {
            if (!day(d)) { return -1; }
            int r = surprise[d] == is ? 0 : 1;
            surprise[d] = is;
            return r;
        }

        int loss(int d, int v) {
            if (!day(d) || v < 0 || v > 99) { return -1; }
            int was = loss[d];
            loss[d] = v;
            return was;
        }

        boolean anySit(int d) { return posts[d][0] >= 0 && posts[d][1] >= 0 && posts[d][0] != posts[d][1]; }

        boolean sit(int p, int q, int d) {
            return anySit(d) && (posts[d][0] == p && posts[d][1] == q || posts[d][0] == q && posts[d][1] == p);
        }

        int trustOn(int p, int q, int d) {
            if (!two(p, q) || !day(d)) { return -1; }
            if (d == 0) { return trust[p][q]; }
            int before = trustOn(p, q, d - 1);
            return sit(p, q, d - 1) ? Math.min(9, before + 1) : Math.max(0, before - laws[5]);
        }

        int seenWith(int d, boolean surprised) {
            int sum = laws[2];
            int p = posts[d][0], q = posts[d][1], book = posts[d][2], count = posts[d][3];
            if (count >= 0 && !kin[count][p] && !kin[count][q]) { sum += laws[3]; }
            if (book >= 0 && !kin[book][p] && !kin[book][q]) { sum += laws[4]; }
            if (surprised) { sum += 6; }
            return sum > 12 ? 12 : sum;
        }

        int seen(int d) {
            if (!day(d)) { return -1; }
            return anySit(d) ? seenWith(d, surprise[d]) : -3;
        }

        int worthWith(int d, boolean surprised) {
            return 12 * laws[0] * trustOn(posts[d][0], posts[d][1], d) - laws[1] * seenWith(d, surprised);
        }

        int worth(int d) {
            if (!day(d)) { return -1; }
            return anySit(d) ? 10000 + worthWith(d, surprise[d]) : -3;
        }

        boolean pay(int d, boolean surprised, int tell) {
            return anySit(d) && worthWith(d, surprised) > 0 && worthWith(d, surprised) > 24 * tell;
        }

        int pays() {
            int set = 0;
            for (int d = 0; d < 10; d++) { if (pay(d, surprise[d], laws[6])) { set += 1 << d; } }
            return set;
        }

        /** Every way to take or not on each of their days, each by itself: the one that brings most. */
        long best(int p, int q, int part) {
            if (!two(p, q) || part < 0 || part > 1) { return -1; }
            List<Integer> days = new ArrayList<>();
            for (int d = 0; d < 10; d++) { if (sit(p, q, d)) { days.add(d); } }
            BigInteger whole = BigInteger.valueOf(12).pow(days.size());
            BigInteger best = BigInteger.ZERO;
            for (int ways = 0; ways < 1 << days.size(); ways++) {
                BigInteger alive = whole, sum = BigInteger.ZERO;
                for (int i = 0; i < days.size(); i++) {
                    if ((ways >> i & 1) == 1) {
                        int d = days.get(i), s = seenWith(d, surprise[d]);
                        BigInteger part12 = alive.divide(BigInteger.valueOf(12));
                        sum = sum.subtract(part12.multiply(BigInteger.valueOf(s * laws[1])));
                        alive = part12.multiply(BigInteger.valueOf(12 - s));
                        sum = sum.add(alive.multiply(BigInteger.valueOf(laws[0] * trustOn(p, q, d))));
                    }
                }
                best = best.max(sum);
            }
            BigInteger g = best.gcd(whole);
            return (part == 0 ? best.divide(g) : whole.divide(g)).longValueExact();
        }

        int enough() {
            for (int tell = 0; tell < 100; tell++) {
                boolean none = true;
                for (int d = 0; d < 10; d++) { none &= !pay(d, surprise[d], tell); }
                if (none) { return tell; }
            }
            return -3;
        }

        int needed() {
            int set = 0;
            for (int d = 0; d < 10; d++) { if (pay(d, false, laws[6])) { set |= 1 << d; } }
            for (int d = 0; d < 10; d++) { if ((set >> d & 1) == 1 && pay(d, true, laws[6])) { return -3; } }
            return set;
        }

        int broken(int d) {
            if (!day(d)) { return -1; }
            for (int w : posts[d]) { if (w >= 0 && away[w][d]) { return 1; } }
            for (int i = 0; i < 4; i++) {
                for (int j = 0; j < i; j++) { if (posts[d][i] >= 0 && posts[d][i] == posts[d][j]) { return 2; } }
            }
            if (!anySit(d)) { return 0; }
            int p = posts[d][0], q = posts[d][1];
            if (kin[p][q]) { return 3; }
            for (int g = 1; g <= laws[7]; g++) { if (d - g >= 0 && sit(p, q, d - g)) { return 4; } }
            return pay(d, surprise[d], laws[6]) ? 5 : 0;
        }

        int mended(int d, int what) {
            if (!day(d) || what < 0 || what > 1) { return -1; }
            int[] was = posts[d];
            int fewest = 5, digits = 0;
            for (int way = 0; way < 4096; way++) {
                int[] now = {way >> 9, way >> 6 & 7, way >> 3 & 7, way & 7};
                int changed = 0;
                boolean good = true;
                for (int i = 0; i < 4; i++) {
                    good &= now[i] < people && !away[now[i]][d];
                    for (int j = 0; j < i; j++) { good &= now[i] != now[j]; }
                    if (now[i] != was[i]) { changed++; }
                }
                posts[d] = now;
                if (good && changed < fewest && broken(d) == 0) {
                    fewest = changed;
                    digits = now[0] + 8 * now[1] + 64 * now[2] + 512 * now[3];
                }
            }
            posts[d] = was;
            return fewest == 5 ? -3 : what == 0 ? fewest : digits;
        }

        int ahead(int d, int n) {
            if (!day(d) || n < 1 || n > 3 || d + n > 10) { return -1; }
            return rowsFrom(d, d + n);
        }

        /** Each row is sat in truth: a day that is broken is broken whatever comes behind it. */
        int rowsFrom(int d, int end) {
            if (d == end) { return 1; }
            int[] was = posts[d].clone();
            int sum = 0;
            for (int p = 0; p < people; p++) {
                for (int q = p + 1; q < people; q++) {
                    posts[d][0] = p;
                    posts[d][1] = q;
                    if (!away[p][d] && !away[q][d] && broken(d) == 0) { sum += rowsFrom(d + 1, end); }
                }
            }
            posts[d] = was;
            return sum;
        }

        long lot(int p, int q, int part) {
            if (!two(p, q) || part < 0 || part > 1) { return -1; }
            int pairs = 0, m = 0, k = 0;
            for (int i = 0; i < people; i++) { pairs += i; }
            for (int d = 0; d < 10; d++) {
                if (anySit(d)) { m++; }
                if (sit(p, q, d)) { k++; }
            }
            BigInteger[] of = new BigInteger[12];
            java.util.Arrays.fill(of, BigInteger.ZERO);
            of[0] = BigInteger.ONE;
            for (int i = 0; i < m; i++) {
                for (int j = i + 1; j >= 0; j--) {
                    BigInteger other = of[j].multiply(BigInteger.valueOf(pairs - 1));
                    of[j] = j == 0 ? other : other.add(of[j - 1]);
                }
            }
            BigInteger sum = BigInteger.ZERO, whole = BigInteger.valueOf(pairs).pow(m);
            for (int j = k; j <= m; j++) { sum = sum.add(of[j]); }
            BigInteger g = sum.gcd(whole);
            return (part == 0 ? sum.divide(g) : whole.divide(g)).longValueExact();
        }

        int sat(int p, int q) {
            if (!two(p, q)) { return -1; }
            int set = 0;
            for (int d = 0; d < 10; d++) { if (sit(p, q, d)) { set |= 1 << d; } }
            return set;
        }

        int suspects(int what) {
            if (what < 0 || what > 1) { return -1; }
            if (people < 2) { return -3; }
            int most = -1, who = 0;
            for (int p = 0; p < people; p++) {
                for (int q = p + 1; q < people; q++) {
                    int sum = 0;
                    for (int d = 0; d < 10; d++) { if (sit(p, q, d)) { sum += loss[d]; } }
                    if (sum > most) { most = sum; who = 8 * p + q; }
                }
            }
            return what == 0 ? who : most;
        }

        int plan(int kind, int a) {
            if (kind < 1 || kind > 5 || a < 0 || a > 4095) { return -1; }
            if (plans.size() == 4) { return -2; }
            plans.add(new int[] {kind, a});
            return plans.size() - 1;
        }

        boolean isPlan(int n) { return n >= 0 && n < plans.size(); }

        int planOf(int n, int what) { return !isPlan(n) || what < 0 || what > 1 ? -1 : plans.get(n)[what]; }

        int fill(int n, int d) {
            if (!isPlan(n) || !day(d)) { return -1; }
            int kind = plans.get(n)[0], a = plans.get(n)[1];
            int[] now = new int[4];
            if (kind == 5) {
                for (int i = 0, r = a; i < 4; i++, r /= 8) {
                    now[i] = r % 8;
                    if (!who(now[i])) { return -3; }
                }
            } else {
                List<Integer> there = new ArrayList<>();
                for (int p = 0; p < people; p++) {
                    if (!away[p][d] && !(kind == 4 && p == (a + d) % people)) { there.add(p); }
                }
                if (there.size() < 4) { return -3; }
                if (kind == 1 || kind == 4) { turn(there, d, now); } else { draw(there, kind == 3, now); }
            }
            posts[d] = now;
            return now[0] + 8 * now[1] + 64 * now[2] + 512 * now[3];
        }

        void turn(List<Integer> there, int d, int[] now) {
            boolean allKin = true;
            for (int p : there) { for (int q : there) { allKin &= p == q || kin[p][q]; } }
            int longest = -1;
            for (int p : there) {
                for (int q : there) {
                    if (p >= q || !allKin && kin[p][q]) { continue; }
                    int since = 1;
                    while (d - since >= 0 && !sit(p, q, d - since)) { since++; }
                    if (d - since < 0) { since = 100; }
                    if (since > longest) { longest = since; now[0] = p; now[1] = q; }
                }
            }
            List<Integer> left = new ArrayList<>(there);
            left.remove((Integer) now[0]);
            left.remove((Integer) now[1]);
            now[2] = left.get(0);
            now[3] = left.get(1);
        }

        void draw(List<Integer> there, boolean counted, int[] now) {
            List<Integer> left = new ArrayList<>(there);
            for (int i = 0; i < 4; i++) {
                z = z * 1103515245 + 12345;
                if (counted && i == 3) {
                    for (int w : left) {
                        if (!kin[w][now[0]] && !kin[w][now[1]]) { now[3] = w; return; }
                    }
                }
                now[i] = left.remove((z >>> 16) % left.size());
            }
        }

        int seed(int v) {
            int was = z;
            z = v;
            return was;
        }

        int due(int d, int what) {
            int p = Math.min(posts[d][0], posts[d][1]), q = Math.max(posts[d][0], posts[d][1]);
            return what == 0 ? anySit(d) ? 8 * p + q : -1 : what == 1 ? anySit(d) ? seen(d) : 0 : broken(d);
        }

        int prove() {
            rows = new int[10][3];
            for (int d = 0; d < 10; d++) { for (int w = 0; w < 3; w++) { rows[d][w] = due(d, w); } }
            return 10;
        }

        int row(int i, int what) { return rows == null || !day(i) || what < 0 || what > 2 ? -9 : rows[i][what]; }

        int alterRow(int i, int what, int v) {
            if (rows == null || !day(i) || what < 0 || what > 2) { return -9; }
            int was = rows[i][what];
            rows[i][what] = v;
            return was;
        }

        int judge() {
            for (int d = 0; rows != null && d < 10; d++) {
                for (int w = 0; w < 3; w++) { if (rows[d][w] != due(d, w)) { return d + 1; } }
            }
            return 0;
        }

        static int sortOf(Object row) {
            return row instanceof byte[] ? 0 : row instanceof short[] ? 1 : row instanceof int[] ? 2 : row instanceof long[] ? 3 : -1;
        }

        int sheet(int s, int sort, int n) {
            if (!four(s) || sort < -1 || sort > 3 || sort >= 0 && n > 40) { return -1; }
            if (sort >= 0 && n < 0) { return -14; }
            sheets[s] = sort == 0 ? new byte[n] : sort == 1 ? new short[n] : sort == 2 ? new int[n] : sort == 3 ? new long[n] : null;
            return 1;
        }

        int put(int s, int i, int v) {
            if (!four(s)) { return -1; }
            if (sheets[s] == null) { return -11; }
            if (i < 0 || i >= java.lang.reflect.Array.getLength(sheets[s])) { return -12; }
            switch (sortOf(sheets[s])) {
                case 0: ((byte[]) sheets[s])[i] = (byte) v; break;
                case 1: ((short[]) sheets[s])[i] = (short) v; break;
                case 2: ((int[]) sheets[s])[i] = v; break;
                default: ((long[]) sheets[s])[i] = v; break;
            }
            return 1;
        }

        int item(int s, int sort, int i) {
            if (!four(s) || !four(sort)) { return -1; }
            if (sheets[s] == null) { return -11; }
            if (sortOf(sheets[s]) != sort) { return -13; }
            if (i < 0 || i >= java.lang.reflect.Array.getLength(sheets[s])) { return -12; }
            return (int) java.lang.reflect.Array.getLong(sheets[s], i);
        }

        int shelf(int s, int what, int n) {
            if (!four(s) || what < 0 || what > 2 || what == 0 && !isPlan(n) || what == 1 && !four(n)) { return -1; }
            shelves[s] = what == 0 ? (Object) Integer.valueOf(n) : what == 1 ? sheets[n] : null;
            return 1;
        }

        Object held(int s) {
            Object h = shelves[s];
            return h instanceof Integer && !isPlan((Integer) h) ? null : h;
        }

        int taken(int s, int as) {
            if (!four(s) || !(as >= 0 && as <= 5 || as >= 10 && as <= 13)) { return -1; }
            Object h = held(s);
            if (h == null) { return -11; }
            if (h instanceof Integer) {
                String[] up = {"0", "10", "20", "320", "410", "50"};
                return as < 6 && up[plans.get((Integer) h)[0]].indexOf('0' + as) >= 0 ? (Integer) h : -13;
            }
            return sortOf(h) == as - 10 ? java.lang.reflect.Array.getLength(h) : -13;
        }

        int act(int s, int act, int x) {
            trace.clear();
            if (!four(s) || !four(act) || !(held(s) instanceof Integer)) { return 0; }
            int n = (Integer) held(s), a = plans.get(n)[1];
            Thing[] things = {null, new Turn(), new Draw(), new Count(), new Rest(), new Told()};
            Thing t = things[plans.get(n)[0]];
            t.n = n;
            t.a = a;
            t.trace = trace;
            try {
                return act == 0 ? t.sits(x) : act == 1 ? t.counts(x) : act == 2 ? t.shares(x) : t.tells(x);
            } catch (ArithmeticException parted) {
                return -15;
            }
        }

        int trace(int i) { return i < 0 || i >= trace.size() ? -3 : trace.get(i); }

        int days(int post, int s) {
            if (!four(post) || !four(s)) { return -1; }
            if (sheets[s] == null) { return -11; }
            if (!(sheets[s] instanceof int[])) { return -13; }
            int[] told = (int[]) sheets[s];
            int d = 0;
            for (; d < told.length && d < 10; d++) { posts[d][post] = who(told[d]) ? told[d] : -1; }
            return d;
        }

        int many(int what) {
            int sit = 0;
            for (int d = 0; d < 10; d++) { sit += anySit(d) ? 1 : 0; }
            int[] of = {people, plans.size(), sit, rows == null ? 0 : 10, tape.size(), trace.size()};
            return what < 0 || what > 5 ? -1 : of[what];
        }

        int keep() {
            kept = new Model();
            kept.copy(this);
            return 1;
        }

        int again() {
            if (kept == null) { return -3; }
            copy(kept);
            return people;
        }
    }

    /** The things as real classes with super, so that the bodies' order is the host's own. */
    private static class Thing {
        int n, a;
        List<Integer> trace;
        int sits(int x) { trace.add(10); return x + n; }
        int counts(int x) { trace.add(11); return sits(x) * 2; }
        int shares(int x) { trace.add(12); return x / (a - n); }
        int tells(int x) { trace.add(13); return counts(x) ^ a; }
    }

    private static class Turn extends Thing {
        @Override int counts(int x) { trace.add(20); return super.counts(x) - a; }
    }

    private static class Draw extends Thing {
        @Override int sits(int x) { trace.add(30); return super.sits(x) * 3; }
        @Override int tells(int x) { trace.add(31); return super.tells(x) + shares(n); }
    }

    private static final class Count extends Draw {
        @Override int sits(int x) { trace.add(40); return 0 - super.sits(x); }
        @Override int counts(int x) { trace.add(41); return super.counts(x) + sits(n); }
    }

    private static final class Rest extends Turn {
        @Override int shares(int x) { trace.add(50); return super.shares(x + 2) ^ 1; }
        @Override int sits(int x) { trace.add(51); return super.sits(x) - n; }
    }

    private static final class Told extends Thing {
        @Override int tells(int x) { trace.add(60); return super.tells(x) * 2; }
        @Override int shares(int x) { trace.add(61); return super.shares(x) + sits(a); }
    }
}
