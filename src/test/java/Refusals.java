import java.util.ArrayList;
import java.util.List;

/**
 * The beginning of "Terms": a refused call changes nothing, and of several refusals the first named one counts.
 * Two objects get the same calls, one of them a refused call more: then each must answer like the other, whatever
 * it is asked. The same holds of a call that only asks.
 */
public final class Refusals extends Checks {
    private static final int TURN = 1, DRAW = 2, COUNTED = 3, REST = 4, AS_TOLD = 5;
    private static final int BYTES = 0, SHORTS = 1, INTS = 2, LONGS = 3;

    private interface Call {
        long on(TillPairs x);
    }

    private interface State {
        TillPairs make();
    }

    private interface Probe {
        void ask(TillPairs x, List<Long> answers);
    }

    private static final Probe[] PROBES = {
        Refusals::house, Refusals::kept, Refusals::host, Refusals::tape, Refusals::deeds,
    };

    private static State state;

    public static void main(String[] args) {
        emptyObject();
        for (State s : new State[] {Refusals::some, Refusals::full}) {
            state = s;
            houseCalls();
            judgeCalls();
            planCalls();
            hostCalls();
            asking();
        }
        someObject();
        fullObject();
        faults();
        actsThatRefuse();
        end();
    }

    // ---- the states

    private static TillPairs empty() {
        return new TillPairs();
    }

    private static TillPairs withoutTape() {
        TillPairs x = with(6);
        x.plan(COUNTED, 7);
        x.keep();
        x.plan(DRAW, 1);
        x.shelf(3, 0, 1);
        x.again();
        x.kin(0, 1, true);
        x.kin(4, 5, true);
        x.trust(0, 2, 9);
        x.trust(4, 5, 3);
        for (int p = 3; p < 6; p++) {
            x.away(p, 9, true);
        }
        x.away(0, 2, true);
        x.set(TAKE, 9);
        x.set(GAP, 3);
        seat(x, 0, 0, 2, 4, 5);
        seat(x, 3, 2, 0, 1, 3);
        seat(x, 9, 3, -1, 5, 5);
        x.surprise(3, true);
        x.loss(0, 99);
        x.loss(3, 4);
        x.seed(-77);
        x.prove();
        x.alterRow(5, 1, 44);
        x.sheet(0, BYTES, 3);
        x.put(0, 2, 200);
        x.sheet(1, INTS, 12);
        x.put(1, 11, LEAST);
        x.sheet(3, LONGS, 40);
        x.put(3, 39, -5);
        x.shelf(0, 0, 0);
        x.shelf(1, 1, 1);
        x.act(0, 3, 5);
        return x;
    }

    private static TillPairs some() {
        TillPairs x = withoutTape();
        feedText(x, "person;take 19");
        return x;
    }

    private static TillPairs full() {
        TillPairs x = with(8);
        x.plan(TURN, 4095);
        x.plan(DRAW, 0);
        x.plan(REST, 2);
        x.plan(AS_TOLD, 4095);
        x.kin(6, 7, true);
        x.trust(6, 7, 9);
        x.keep();
        for (int day = 0; day < 10; day++) {
            seat(x, day, day % 8, (day + 1) % 8, (day + 2) % 8, (day + 3) % 8);
        }
        x.away(7, 9, true);
        x.surprise(9, true);
        x.loss(9, 99);
        x.seed(MOST);
        x.prove();
        for (int i = 0; i < 4; i++) {
            x.shelf(i, 0, i);
            x.sheet(i, i, 40);
            x.put(i, 39, 7);
        }
        x.shelf(2, 1, 0);
        x.sheet(2, -1, 0);
        x.act(1, 1, 9);
        feedText(x, "person;person;kin 0 1;gap 8" + " ".repeat(169));
        return x;
    }

    // ---- what the two objects are asked

    private static void house(TillPairs x, List<Long> answers) {
        int people = x.many(0);
        for (int what = 0; what < 3; what++) {
            answers.add((long) x.many(what));
        }
        for (int law = 0; law < 8; law++) {
            answers.add((long) x.law(law));
        }
        for (int day = 0; day < 10; day++) {
            for (int post = 0; post < 4; post++) {
                answers.add((long) x.postOf(day, post));
            }
            answers.add((long) x.surprise(day, false));
            answers.add((long) x.loss(day, 0));
        }
        for (int p = 0; p < people; p++) {
            for (int q = 0; q < p; q++) {
                answers.add((long) x.kin(p, q, false));
                answers.add((long) x.trust(p, q, 0));
            }
            for (int day = 0; day < 10; day++) {
                answers.add((long) x.away(p, day, false));
            }
        }
        answers.add((long) x.seed(0));
    }

    private static void kept(TillPairs x, List<Long> answers) {
        answers.add((long) x.again());
        house(x, answers);
        for (int n = 0; n < 4; n++) {
            answers.add((long) x.planOf(n, 0));
            answers.add((long) x.planOf(n, 1));
        }
    }

    private static void host(TillPairs x, List<Long> answers) {
        for (int what = 1; what < 6; what++) {
            answers.add((long) x.many(what));
        }
        for (int i = 0; i < 10; i++) {
            for (int what = 0; what < 3; what++) {
                answers.add((long) x.row(i, what));
            }
        }
        answers.add((long) x.judge());
        for (int i = 0; i < 12; i++) {
            answers.add((long) x.trace(i));
        }
        for (int i = 0; i < 4; i++) {
            answers.add((long) x.planOf(i, 0));
            answers.add((long) x.planOf(i, 1));
            for (int as = 0; as < 14; as++) {
                answers.add((long) x.taken(i, as));
            }
            for (int sort = BYTES; sort <= LONGS; sort++) {
                int first = x.item(i, sort, 0);
                answers.add((long) first);
                for (int j = 1; first != OTHER && first != NOTHING && j <= 40; j++) {
                    answers.add((long) x.item(i, sort, j));
                }
            }
        }
    }

    private static void tape(TillPairs x, List<Long> answers) {
        answers.add((long) x.many(4));
        answers.add((long) told(x, ";"));
        house(x, answers);
    }

    private static void deeds(TillPairs x, List<Long> answers) {
        for (int shelf = 0; shelf < 4; shelf++) {
            for (int act = 0; act < 4; act++) {
                answers.add((long) x.act(shelf, act, 9));
                answers.add((long) x.many(5));
            }
        }
        for (int plan = 0; plan < 4; plan++) {
            answers.add((long) x.fill(plan, plan + 5));
        }
        answers.add((long) x.plan(REST, 9));
        answers.add((long) x.person());
        answers.add((long) x.seed(1));
        for (int n = 8; n > 0; n--) {
            answers.add((long) x.feed(0x2020202020202020L, n));
        }
        answers.add((long) x.house());
        answers.add((long) x.many(0));
    }

    // ---- how they are told apart

    private static void alike(int promise, String what, Call more, Call instead) {
        for (int i = 0; i < PROBES.length; i++) {
            List<Long> answers = new ArrayList<>(), due = new ArrayList<>();
            TillPairs x = state.make(), y = state.make();
            more.on(x);
            instead.on(y);
            PROBES[i].ask(x, answers);
            PROBES[i].ask(y, due);
            due(promise, "probe " + i + " behind " + what + ", equal", answers.equals(due) ? 1 : 0, 1);
        }
    }

    private static void refused(int promise, String what, int want, Call call) {
        due(promise, what, call.on(state.make()), want);
        alike(promise, what, call, x -> 0);
    }

    private static void asks(int promise, String what, Call call) {
        due(promise, what + ", twice", call.on(state.make()), twice(call));
        alike(promise, what, call, x -> 0);
    }

    private static long twice(Call call) {
        TillPairs x = state.make();
        call.on(x);
        return call.on(x);
    }

    // ---- calls that any state refuses

    private static void houseCalls() {
        for (int n : new int[] {0, 9, -1, LEAST, MOST}) {
            refused(2, "feed of " + n, BAD, x -> x.feed(0x2121212121212121L, n));
        }
        for (int no : new int[] {-1, 8, LEAST, MOST}) {
            refused(5, "kin(" + no + ", 0)", BAD, x -> x.kin(no, 0, true));
            refused(5, "kin(0, " + no + ")", BAD, x -> x.kin(0, no, true));
            refused(6, "trust(" + no + ", 0)", BAD, x -> x.trust(no, 0, 5));
            refused(6, "trust(0, " + no + ")", BAD, x -> x.trust(0, no, 5));
            refused(7, "away of " + no, BAD, x -> x.away(no, 0, true));
            refused(8, "law " + no, BAD, x -> x.set(no, 1));
            refused(9, "law " + no, BAD, x -> x.law(no));
        }
        for (int no : new int[] {8, -2, -9, LEAST, MOST}) {
            refused(10, "person " + no + " at a post", BAD, x -> x.post(0, 0, no));
        }
        for (int p = 0; p < 6; p += 5) {
            int same = p;
            refused(5, "kin of the same", BAD, x -> x.kin(same, same, true));
            refused(6, "trust of the same", BAD, x -> x.trust(same, same, 5));
        }
        for (int v : new int[] {-1, 10, LEAST, MOST}) {
            refused(6, "trust of " + v, BAD, x -> x.trust(1, 2, v));
        }
        for (int law = 0; law < 8; law++) {
            int which = law;
            for (int v : new int[] {-1, MOST_OF_LAW[law] + 1, LEAST, MOST}) {
                refused(8, "law " + law + " of " + v, BAD, x -> x.set(which, v));
            }
        }
        for (int v : new int[] {-1, 100, LEAST, MOST}) {
            refused(13, "loss of " + v, BAD, x -> x.loss(1, v));
        }
        for (int no : NO_PLACES) {
            refused(10, "post " + no, BAD, x -> x.post(1, no, 1));
            refused(10, "nobody at post " + no, BAD, x -> x.post(1, no, -1));
            refused(11, "post " + no, BAD, x -> x.postOf(1, no));
        }
        for (int no : NO_DAYS) {
            refused(7, "away on " + no, BAD, x -> x.away(1, no, true));
            refused(10, "post on " + no, BAD, x -> x.post(no, 0, 1));
            refused(11, "post on " + no, BAD, x -> x.postOf(no, 0));
            refused(12, "surprise on " + no, BAD, x -> x.surprise(no, true));
            refused(13, "loss on " + no, BAD, x -> x.loss(no, 1));
        }
    }

    private static void judgeCalls() {
        for (int no : NO_DAYS) {
            refused(14, "trust on " + no, BAD, x -> x.trustOn(0, 1, no));
            refused(15, "seen on " + no, BAD, x -> x.seen(no));
            refused(16, "worth on " + no, BAD, x -> x.worth(no));
            refused(21, "broken on " + no, BAD, x -> x.broken(no));
            refused(22, "mended on " + no, BAD, x -> x.mended(no, 0));
            refused(23, "ahead from " + no, BAD, x -> x.ahead(no, 1));
        }
        for (int no : new int[] {-1, 8, 0, LEAST, MOST}) {
            refused(14, "trust of " + no + " and 0", BAD, x -> x.trustOn(no, 0, 1));
            refused(18, "best of " + no + " and 0", BAD, x -> x.best(no, 0, 1));
            refused(24, "lot of 0 and " + no, BAD, x -> x.lot(0, no, 1));
            refused(25, "sat of 0 and " + no, BAD, x -> x.sat(0, no));
        }
        for (int what : new int[] {-1, 2, LEAST, MOST}) {
            refused(18, "best, part " + what, BAD, x -> x.best(0, 1, what));
            refused(22, "mended, what " + what, BAD, x -> x.mended(0, what));
            refused(24, "lot, part " + what, BAD, x -> x.lot(0, 1, what));
            refused(26, "suspects, what " + what, BAD, x -> x.suspects(what));
        }
        for (int n : new int[] {0, 4, -1, LEAST, MOST}) {
            refused(23, "ahead by " + n, BAD, x -> x.ahead(0, n));
        }
        refused(23, "ahead(8, 3)", BAD, x -> x.ahead(8, 3));
        refused(23, "ahead(9, 2)", BAD, x -> x.ahead(9, 2));
    }

    private static void planCalls() {
        for (int kind : new int[] {0, 6, -1, LEAST, MOST}) {
            refused(27, "kind " + kind, BAD, x -> x.plan(kind, 5));
        }
        for (int a : new int[] {-1, 4096, LEAST, MOST}) {
            refused(27, "A " + a, BAD, x -> x.plan(DRAW, a));
        }
        for (int no : NO_PLACES) {
            refused(28, "plan " + no, BAD, x -> x.planOf(no, 0));
            refused(29, "fill by plan " + no, BAD, x -> x.fill(no, 0));
        }
        for (int what : new int[] {-1, 2, LEAST, MOST}) {
            refused(28, "what " + what, BAD, x -> x.planOf(0, what));
        }
        for (int no : NO_DAYS) {
            refused(29, "fill on " + no, BAD, x -> x.fill(0, no));
            refused(32, "row " + no, -9, x -> x.row(no, 0));
            refused(33, "row " + no, -9, x -> x.alterRow(no, 0, 5));
        }
        for (int what : new int[] {-1, 3, LEAST, MOST}) {
            refused(32, "what " + what, -9, x -> x.row(1, what));
            refused(33, "what " + what, -9, x -> x.alterRow(1, what, 5));
        }
    }

    private static void hostCalls() {
        for (int no : NO_PLACES) {
            refused(35, "sheet " + no, BAD, x -> x.sheet(no, BYTES, 1));
            refused(35, "sheet " + no + " missing", BAD, x -> x.sheet(no, -1, 1));
            refused(36, "sheet " + no, BAD, x -> x.put(no, 0, 1));
            refused(37, "sheet " + no, BAD, x -> x.item(no, 0, 0));
            refused(37, "sort " + no, BAD, x -> x.item(0, no, 0));
            refused(38, "shelf " + no, BAD, x -> x.shelf(no, 2, 0));
            refused(38, "plan " + no, BAD, x -> x.shelf(0, 0, no));
            refused(38, "row " + no, BAD, x -> x.shelf(0, 1, no));
            refused(39, "shelf " + no, BAD, x -> x.taken(no, 0));
            refused(42, "post " + no, BAD, x -> x.days(no, 1));
            refused(42, "sheet " + no, BAD, x -> x.days(0, no));
        }
        for (int sort : new int[] {-2, 4, LEAST, MOST}) {
            refused(35, "sort " + sort, BAD, x -> x.sheet(0, sort, 1));
        }
        for (int n : new int[] {41, MOST}) {
            refused(35, "n " + n, BAD, x -> x.sheet(0, SHORTS, n));
        }
        for (int n : new int[] {-1, LEAST}) {
            refused(35, "n " + n, BELOW_ZERO, x -> x.sheet(0, SHORTS, n));
        }
        for (int i : new int[] {-1, 40, LEAST, MOST}) {
            refused(36, "place " + i, OUTSIDE, x -> x.put(3, i, 1));
            refused(37, "place " + i, OUTSIDE, x -> x.item(3, LONGS, i));
            refused(37, "place " + i + ", another sort", OTHER, x -> x.item(3, INTS, i));
            refused(36, "missing, place " + i, NOTHING, x -> x.put(2, i, 1));
            refused(37, "missing, place " + i, NOTHING, x -> x.item(2, INTS, i));
        }
        for (int what : new int[] {-1, 3, LEAST, MOST}) {
            refused(38, "what " + what, BAD, x -> x.shelf(0, what, 0));
        }
        for (int as : new int[] {-1, 6, 9, 14, LEAST, MOST}) {
            refused(39, "as " + as, BAD, x -> x.taken(0, as));
        }
        refused(39, "a plan of another kind", OTHER, x -> x.taken(0, AS_TOLD));
        refused(39, "a plan as a row", OTHER, x -> x.taken(0, 10));
        refused(42, "missing", NOTHING, x -> x.days(1, 2));
        refused(42, "longs", OTHER, x -> x.days(1, 3));
        refused(42, "bytes", OTHER, x -> x.days(1, 0));
        for (int i : new int[] {-1, 11, 30, LEAST, MOST}) {
            refused(41, "trace(" + i + ")", NONE, x -> x.trace(i));
        }
        for (int what : new int[] {-1, 6, LEAST, MOST}) {
            refused(43, "many(" + what + ")", BAD, x -> x.many(what));
        }
    }

    private static void asking() {
        asks(9, "law", x -> x.law(7));
        asks(11, "postOf", x -> x.postOf(3, 1));
        asks(14, "trustOn", x -> x.trustOn(0, 2, 9));
        asks(15, "seen", x -> x.seen(3));
        asks(16, "worth", x -> x.worth(3));
        asks(17, "pays", x -> x.pays());
        asks(18, "best", x -> x.best(0, 2, 0));
        asks(18, "best", x -> x.best(2, 0, 1));
        asks(19, "enough", x -> x.enough());
        asks(20, "needed", x -> x.needed());
        asks(24, "lot", x -> x.lot(0, 2, 0));
        asks(25, "sat", x -> x.sat(0, 2));
        asks(26, "suspects", x -> x.suspects(0));
        for (int day = 0; day < 10; day++) {
            int on = day;
            asks(21, "broken", x -> x.broken(on));
            asks(22, "mended", x -> x.mended(on, 0));
            asks(22, "mended", x -> x.mended(on, 1));
            asks(23, "ahead", x -> x.ahead(on, Math.min(3, 10 - on)));
        }
        asks(28, "planOf", x -> x.planOf(0, 1));
        asks(32, "row", x -> x.row(5, 1));
        asks(34, "judge", x -> x.judge());
        asks(37, "item", x -> x.item(3, LONGS, 39));
        asks(39, "taken", x -> x.taken(0, 0));
        asks(41, "trace", x -> x.trace(0));
        for (int what = 0; what < 6; what++) {
            int of = what;
            asks(43, "many", x -> x.many(of));
        }
    }

    // ---- calls that one state refuses

    private static void emptyObject() {
        state = Refusals::empty;
        refused(5, "nobody to be kin", BAD, x -> x.kin(0, 1, true));
        refused(6, "nobody to trust", BAD, x -> x.trust(0, 1, 1));
        refused(7, "nobody to be away", BAD, x -> x.away(0, 0, true));
        refused(10, "nobody for a post", BAD, x -> x.post(0, 0, 0));
        refused(14, "nobody to trust", BAD, x -> x.trustOn(0, 1, 0));
        refused(15, "nobody sits", NONE, x -> x.seen(0));
        refused(16, "nobody sits", NONE, x -> x.worth(0));
        refused(18, "nobody", BAD, x -> x.best(0, 1, 0));
        refused(22, "no way", NONE, x -> x.mended(0, 0));
        refused(22, "no way, what 2", BAD, x -> x.mended(0, 2));
        refused(24, "nobody", BAD, x -> x.lot(0, 1, 0));
        refused(25, "nobody", BAD, x -> x.sat(0, 1));
        refused(26, "no two", NONE, x -> x.suspects(0));
        refused(26, "no two, what 2", BAD, x -> x.suspects(2));
        refused(28, "no plan", BAD, x -> x.planOf(0, 0));
        refused(29, "no plan", BAD, x -> x.fill(0, 0));
        refused(32, "no row", -9, x -> x.row(0, 0));
        refused(33, "no row", -9, x -> x.alterRow(0, 0, 5));
        refused(35, "sort 4 and below 0", BAD, x -> x.sheet(0, 4, -1));
        refused(35, "below 0", BELOW_ZERO, x -> x.sheet(0, LONGS, -1));
        refused(36, "a missing sheet", NOTHING, x -> x.put(0, 0, 1));
        refused(37, "a missing sheet", NOTHING, x -> x.item(0, 0, 0));
        refused(37, "sort 4 of a missing sheet", BAD, x -> x.item(0, 4, 0));
        refused(38, "no plan", BAD, x -> x.shelf(0, 0, 0));
        refused(39, "nothing", NOTHING, x -> x.taken(0, 0));
        refused(39, "nothing, as 6", BAD, x -> x.taken(0, 6));
        refused(41, "no trace", NONE, x -> x.trace(0));
        refused(42, "a missing sheet", NOTHING, x -> x.days(0, 0));
        refused(42, "a missing sheet, post 4", BAD, x -> x.days(4, 0));
        refused(45, "nothing is kept", NONE, x -> x.again());
        asks(34, "judge", x -> x.judge());
        asks(40, "act", x -> x.act(0, 0, 0));
    }

    private static void someObject() {
        state = Refusals::some;
        for (int p : new int[] {6, 7}) {
            refused(5, "no person " + p, BAD, x -> x.kin(p, 0, true));
            refused(6, "no person " + p, BAD, x -> x.trust(0, p, 5));
            refused(7, "no person " + p, BAD, x -> x.away(p, 0, true));
            refused(10, "no person " + p, BAD, x -> x.post(0, 0, p));
            refused(14, "no person " + p, BAD, x -> x.trustOn(0, p, 0));
        }
        refused(15, "one alone", NONE, x -> x.seen(9));
        refused(16, "one alone", NONE, x -> x.worth(9));
        refused(22, "three are there", NONE, x -> x.mended(9, 0));
        refused(22, "three are there, what 2", BAD, x -> x.mended(9, 2));
        refused(29, "three are PRESENT", NONE, x -> x.fill(0, 9));
        refused(28, "no plan 1", BAD, x -> x.planOf(1, 0));
        refused(29, "no plan 1", BAD, x -> x.fill(1, 0));
        refused(38, "no plan 1", BAD, x -> x.shelf(0, 0, 1));
        refused(39, "a plan that went", NOTHING, x -> x.taken(3, 0));
        refused(39, "a row of another sort", OTHER, x -> x.taken(1, 10));
        refused(39, "a row as a plan", OTHER, x -> x.taken(1, 0));
        refused(36, "place 12", OUTSIDE, x -> x.put(1, 12, 1));
        refused(36, "place 3", OUTSIDE, x -> x.put(0, 3, 1));
        refused(37, "place 3", OUTSIDE, x -> x.item(0, BYTES, 3));
        refused(37, "place 3, another sort", OTHER, x -> x.item(0, SHORTS, 3));
    }

    private static void fullObject() {
        state = Refusals::full;
        refused(4, "a ninth", FULL, x -> x.person());
        for (int n = 5; n <= 8; n++) {
            int many = n;
            refused(2, "more than 200", FULL, x -> x.feed(0x2121212121212121L, many));
        }
        for (int kind = TURN; kind <= AS_TOLD; kind++) {
            int of = kind;
            refused(27, "a fifth plan", FULL, x -> x.plan(of, 0));
            refused(27, "a fifth plan, A 4096", BAD, x -> x.plan(of, 4096));
        }
        refused(27, "a fifth plan, kind 6", BAD, x -> x.plan(6, 0));
        state = () -> {
            TillPairs x = full();
            told(x, ";");
            return x;
        };
        refused(29, "two people: nobody to turn", NONE, x -> x.fill(0, 0));
        refused(29, "two people: nobody to draw", NONE, x -> x.fill(1, 0));
        refused(29, "two people: nobody to rest", NONE, x -> x.fill(2, 0));
        refused(29, "two people: no person 7", NONE, x -> x.fill(3, 0));
    }

    /** A text with a fault changes nothing but that the tape is used up. */
    private static void faults() {
        state = Refusals::withoutTape;
        String[] texts = {"0", ";", "person", "person;take 21;", "take 20;pain 9;person;person;kin 0 0;",
            "person;person;trust 0 1 9;away 0 on 1 and 2;gap", "person;".repeat(8) + "person;", "x" + " ".repeat(199)};
        int[] places = {0, 0, 6, 12, 35, 47, 56, 0};
        for (int i = 0; i < texts.length; i++) {
            String text = texts[i];
            refused(3, "'" + text + "'", -100 - places[i], x -> told(x, text));
        }
    }

    /** act() has its trace, so that both objects act once more. */
    private static void actsThatRefuse() {
        state = () -> {
            TillPairs x = withoutTape();
            x.plan(TURN, 1);
            x.shelf(2, 0, 1);
            return x;
        };
        due(40, "parted by 0", state.make().act(2, 2, 5), PARTED);
        Call once = x -> x.act(0, 1, 8);
        alike(40, "parted by 0", x -> x.act(2, 2, 5) + x.act(0, 1, 8), once);
        alike(40, "no such shelf", x -> x.act(4, 2, 5) + x.act(0, 1, 8), once);
        alike(40, "no such act", x -> x.act(0, 4, 5) + x.act(0, 1, 8), once);
        alike(40, "a plan that went", x -> x.act(3, 1, 5) + x.act(0, 1, 8), once);
        alike(40, "a row", x -> x.act(1, 1, 5) + x.act(0, 1, 8), once);
        alike(40, "an act", x -> x.act(2, 3, 5) + x.act(0, 1, 8), once);
    }
}
