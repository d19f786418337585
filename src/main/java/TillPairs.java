import java.util.Arrays;

/** Nobody twice at the till: who sits with whom at a chest with two locks, and whether it pays to be of one mind. */
public final class TillPairs {
    public static final int BAD = -1, FULL = -2, NONE = -3, STATE = -4;

    private static final int NOTHING = -11, OUTSIDE = -12, OTHER = -13, BELOW_ZERO = -14, PARTED = -15;
    private static final int NO_ONE = -9;
    private static final int NOBODY = -1;
    private static final int PEOPLE = 8, DAYS = 10, POSTS = 4, LAWS = 8, MOST_TRUST = 9;
    private static final int BOOK = 2, COUNT = 3;
    private static final int TAKE = 0, PAIN = 1, EYE = 2, COUNTER = 3, READER = 4, FADE = 5, TELL = 6, GAP = 7;
    private static final int MOST_TELL = 99, MOST_LOSS = 99;
    private static final int WORTH_SHIFT = 10000;

    private final House home;
    private final Tape tape;
    private final Judge mind;
    private final Odds odds;
    private final Ways ways;
    private final Plans plans;
    private final Rows rows;
    private final Acts acts;
    private final Host host;
    private final House keptHome;
    private final Plans keptPlans;
    private boolean kept;

    public TillPairs() {
        home = new House();
        tape = new Tape();
        mind = new Judge(home);
        odds = new Odds(home, mind);
        ways = new Ways(home, mind);
        plans = new Plans();
        rows = new Rows(home, mind);
        acts = new Acts();
        host = new Host();
        keptHome = new House();
        keptPlans = new Plans();
        kept = false;
    }

    // ---- the house

    public int feed(long eight, int n) {
        if (n < 1 || n > 8) {
            return BAD;
        }
        if (tape.length + n > Tape.MOST) {
            return FULL;
        }
        return tape.add(eight, n);
    }

    public int house() {
        int fault = tape.tell(home);
        if (fault >= 0) {
            return -100 - fault;
        }
        rows.drop();
        return home.people;
    }

    public int person() {
        return home.people < PEOPLE ? home.addPerson() : FULL;
    }

    public int kin(int p, int q, boolean are) {
        return home.areTwo(p, q) ? home.setKin(p, q, are) : BAD;
    }

    public int trust(int p, int q, int v) {
        if (!home.areTwo(p, q) || v < 0 || v > MOST_TRUST) {
            return BAD;
        }
        int pair = House.pairOf(p, q);
        int was = home.trustAtFirst[pair];
        home.trustAtFirst[pair] = v;
        return was;
    }

    public int away(int p, int day, boolean is) {
        return home.isPerson(p) && isDay(day) ? home.setAway(p, day, is) : BAD;
    }

    public int set(int law, int v) {
        if (law < 0 || law >= LAWS || v < 0 || v > House.MOST_OF_LAW[law]) {
            return BAD;
        }
        int was = home.laws[law];
        home.laws[law] = v;
        return was;
    }

    public int law(int law) {
        return law < 0 || law >= LAWS ? BAD : home.laws[law];
    }

    public int post(int day, int post, int p) {
        if (!isDay(day) || !isPost(post) || (p != NOBODY && !home.isPerson(p))) {
            return BAD;
        }
        int was = home.at(day, post);
        home.seat(day, post, p);
        return was == NOBODY ? NO_ONE : was;
    }

    public int postOf(int day, int post) {
        if (!isDay(day) || !isPost(post)) {
            return BAD;
        }
        int who = home.at(day, post);
        return who == NOBODY ? NO_ONE : who;
    }

    public int surprise(int day, boolean is) {
        return isDay(day) ? home.setSurprise(day, is) : BAD;
    }

    public int loss(int day, int v) {
        if (!isDay(day) || v < 0 || v > MOST_LOSS) {
            return BAD;
        }
        int was = home.losses[day];
        home.losses[day] = v;
        return was;
    }

    // ---- whether it pays

    public int trustOn(int p, int q, int day) {
        return home.areTwo(p, q) && isDay(day) ? mind.trustOfPair(House.pairOf(p, q), day) : BAD;
    }

    public int seen(int day) {
        if (!isDay(day)) {
            return BAD;
        }
        return home.pairOn(day) == NOBODY ? NONE : mind.seenOn(day);
    }

    public int worth(int day) {
        if (!isDay(day)) {
            return BAD;
        }
        return home.pairOn(day) == NOBODY ? NONE : mind.worthOn(day) + WORTH_SHIFT;
    }

    public int pays() {
        return mind.payingDays();
    }

    public long best(int p, int q, int part) {
        if (!home.areTwo(p, q) || !isPart(part)) {
            return BAD;
        }
        odds.findBest(House.pairOf(p, q));
        return part == 0 ? odds.above : odds.below;
    }

    public int enough() {
        return mind.leastTell();
    }

    public int needed() {
        return mind.surprisesNeeded();
    }

    public int broken(int day) {
        return isDay(day) ? mind.brokenOn(day) : BAD;
    }

    // ---- how to sit

    public int mended(int day, int what) {
        if (!isDay(day) || what < 0 || what > 1) {
            return BAD;
        }
        if (!ways.mend(day)) {
            return NONE;
        }
        return what == 0 ? ways.changes : ways.digits;
    }

    public int ahead(int day, int n) {
        return !isDay(day) || n < 1 || n > Ways.FARTHEST || day + n > DAYS ? BAD : ways.rowsAhead(day, n);
    }

    public long lot(int p, int q, int part) {
        if (!home.areTwo(p, q) || !isPart(part)) {
            return BAD;
        }
        odds.findLot(House.pairOf(p, q));
        return part == 0 ? odds.above : odds.below;
    }

    public int sat(int p, int q) {
        return home.areTwo(p, q) ? home.daysOf(House.pairOf(p, q)) : BAD;
    }

    public int suspects(int what) {
        if (what < 0 || what > 1) {
            return BAD;
        }
        if (home.people < 2) {
            return NONE;
        }
        int pair = home.pairOfMostLoss();
        return what == 0 ? pair : home.lossOf(pair);
    }

    // ---- plans

    public int plan(int kind, int a) {
        if (kind < 1 || kind >= Acts.KINDS || a < 0 || a > Plans.MOST_A) {
            return BAD;
        }
        return plans.count < Plans.MOST ? plans.add(kind, a) : FULL;
    }

    public int planOf(int plan, int what) {
        if (!plans.has(plan) || what < 0 || what > 1) {
            return BAD;
        }
        return what == 0 ? plans.kinds[plan] : plans.as[plan];
    }

    public int fill(int plan, int day) {
        if (!plans.has(plan) || !isDay(day)) {
            return BAD;
        }
        return plans.fillDay(home, plan, day);
    }

    public int seed(int v) {
        int was = plans.z;
        plans.z = v;
        return was;
    }

    // ---- rows

    public int prove() {
        return rows.write();
    }

    public int row(int i, int what) {
        return rows.has(i, what) ? rows.cells[i * Rows.WIDTH + what] : NO_ONE;
    }

    public int alterRow(int i, int what, int v) {
        if (!rows.has(i, what)) {
            return NO_ONE;
        }
        int cell = i * Rows.WIDTH + what;
        int was = rows.cells[cell];
        rows.cells[cell] = v;
        return was;
    }

    public int judge() {
        return rows.firstWrong();
    }

    // ---- the host

    public int sheet(int sheet, int sort, int n) {
        if (!isPlace(sheet) || sort < Host.MISSING || sort >= Host.SORTS) {
            return BAD;
        }
        if (sort == Host.MISSING) {
            return host.lay(sheet, sort, 0);
        }
        if (n > Host.LONGEST) {
            return BAD;
        }
        return n < 0 ? BELOW_ZERO : host.lay(sheet, sort, n);
    }

    public int put(int sheet, int i, int v) {
        if (!isPlace(sheet)) {
            return BAD;
        }
        if (host.sorts[sheet] == Host.MISSING) {
            return NOTHING;
        }
        return host.holds(sheet, i) ? host.write(sheet, i, v) : OUTSIDE;
    }

    public int item(int sheet, int sort, int i) {
        if (!isPlace(sheet) || sort < 0 || sort >= Host.SORTS) {
            return BAD;
        }
        if (host.sorts[sheet] == Host.MISSING) {
            return NOTHING;
        }
        if (host.sorts[sheet] != sort) {
            return OTHER;
        }
        return host.holds(sheet, i) ? host.items[sheet][i] : OUTSIDE;
    }

    public int shelf(int shelf, int what, int n) {
        if (!isPlace(shelf)) {
            return BAD;
        }
        if (what == Host.A_PLAN) {
            return plans.has(n) ? host.shelvePlan(shelf, n) : BAD;
        }
        if (what == Host.A_ROW) {
            return isPlace(n) ? host.shelveRow(shelf, n) : BAD;
        }
        return what == Host.EMPTY ? host.clear(shelf) : BAD;
    }

    public int taken(int shelf, int as) {
        boolean kind = as >= 0 && as < Acts.KINDS;
        boolean sort = as >= Host.SORTS_FROM && as < Host.SORTS_FROM + Host.SORTS;
        if (!isPlace(shelf) || (!kind && !sort)) {
            return BAD;
        }
        if (host.heldRow(shelf)) {
            return sort && host.heldSort[shelf] == as - Host.SORTS_FROM ? host.held[shelf] : OTHER;
        }
        int plan = planOn(shelf);
        if (plan == NOBODY) {
            return NOTHING;
        }
        return kind && Acts.isUnder(plans.kinds[plan], as) ? plan : OTHER;
    }

    public int act(int shelf, int act, int x) {
        acts.forget();
        if (!isPlace(shelf) || act < 0 || act >= Acts.ACTS) {
            return 0;
        }
        int plan = planOn(shelf);
        return plan == NOBODY ? 0 : acts.perform(plans.kinds[plan], plan, plans.as[plan], act, x);
    }

    public int trace(int i) {
        return i < 0 || i >= acts.bodies ? NONE : acts.noted[i];
    }

    public int days(int post, int sheet) {
        if (!isPost(post) || !isPlace(sheet)) {
            return BAD;
        }
        if (host.sorts[sheet] == Host.MISSING) {
            return NOTHING;
        }
        if (host.sorts[sheet] != Host.INTS) {
            return OTHER;
        }
        int told = Math.min(host.lengths[sheet], DAYS);
        for (int day = 0; day < told; day++) {
            int who = host.items[sheet][day];
            home.seat(day, post, home.isPerson(who) ? who : NOBODY);
        }
        return told;
    }

    public int many(int what) {
        switch (what) {
            case 0: return home.people;
            case 1: return plans.count;
            case 2: return home.sittings();
            case 3: return rows.count;
            case 4: return tape.length;
            case 5: return acts.bodies;
            default: return BAD;
        }
    }

    // ---- kept

    public int keep() {
        keptHome.become(home);
        keptPlans.become(plans);
        kept = true;
        return 1;
    }

    public int again() {
        if (!kept) {
            return NONE;
        }
        home.become(keptHome);
        plans.become(keptPlans);
        return home.people;
    }

    private static boolean isDay(int day) {
        return day >= 0 && day < DAYS;
    }

    private static boolean isPost(int post) {
        return post >= 0 && post < POSTS;
    }

    private static boolean isPart(int part) {
        return part == 0 || part == 1;
    }

    private static boolean isPlace(int place) {
        return place >= 0 && place < Host.PLACES;
    }

    // A shelf holds a plan by its number only: again() may have taken that plan away.
    private int planOn(int shelf) {
        return host.heldPlan(shelf) && plans.has(host.held[shelf]) ? host.held[shelf] : NOBODY;
    }

    /** What is told of THE HOUSE; two people are a pair, 8 p + q with p the lesser one. */
    private static final class House {
        private static final int[] LAWS_AT_FIRST = {5, 30, 2, 4, 1, 1, 0, 2};
        private static final int[] MOST_OF_LAW = {20, 99, 12, 12, 12, 3, 99, 9};

        private int people;
        private int surprises;
        private final int[] kinOf;
        private final int[] awayOn;
        private final int[] trustAtFirst;
        private final int[] laws;
        private final int[] seats;
        private final int[] losses;

        House() {
            people = 0;
            surprises = 0;
            kinOf = new int[PEOPLE];
            awayOn = new int[PEOPLE];
            trustAtFirst = new int[PEOPLE * PEOPLE];
            laws = new int[LAWS];
            seats = new int[DAYS * POSTS];
            losses = new int[DAYS];
            System.arraycopy(LAWS_AT_FIRST, 0, laws, 0, LAWS);
            Arrays.fill(seats, NOBODY);
        }

        static int pairOf(int p, int q) {
            return p < q ? PEOPLE * p + q : PEOPLE * q + p;
        }

        void become(House other) {
            people = other.people;
            surprises = other.surprises;
            System.arraycopy(other.kinOf, 0, kinOf, 0, PEOPLE);
            System.arraycopy(other.awayOn, 0, awayOn, 0, PEOPLE);
            System.arraycopy(other.trustAtFirst, 0, trustAtFirst, 0, PEOPLE * PEOPLE);
            System.arraycopy(other.laws, 0, laws, 0, LAWS);
            System.arraycopy(other.seats, 0, seats, 0, DAYS * POSTS);
            System.arraycopy(other.losses, 0, losses, 0, DAYS);
        }

        void emptyBut(int[] lawsThatStay) {
            people = 0;
            surprises = 0;
            Arrays.fill(kinOf, 0);
            Arrays.fill(awayOn, 0);
            Arrays.fill(trustAtFirst, 0);
            System.arraycopy(lawsThatStay, 0, laws, 0, LAWS);
            Arrays.fill(seats, NOBODY);
            Arrays.fill(losses, 0);
        }

        boolean isPerson(int p) {
            return p >= 0 && p < people;
        }

        boolean areTwo(int p, int q) {
            return isPerson(p) && isPerson(q) && p != q;
        }

        int addPerson() {
            people++;
            return people - 1;
        }

        int setKin(int p, int q, boolean are) {
            if (areKin(p, q) == are) {
                return 0;
            }
            kinOf[p] ^= 1 << q;
            kinOf[q] ^= 1 << p;
            return 1;
        }

        boolean areKin(int p, int q) {
            return (kinOf[p] >> q & 1) == 1;
        }

        int setAway(int p, int day, boolean is) {
            if (isAway(p, day) == is) {
                return 0;
            }
            awayOn[p] ^= 1 << day;
            return 1;
        }

        boolean isAway(int p, int day) {
            return (awayOn[p] >> day & 1) == 1;
        }

        int setSurprise(int day, boolean is) {
            if (hasSurprise(day) == is) {
                return 0;
            }
            surprises ^= 1 << day;
            return 1;
        }

        boolean hasSurprise(int day) {
            return (surprises >> day & 1) == 1;
        }

        int at(int day, int post) {
            return seats[day * POSTS + post];
        }

        void seat(int day, int post, int who) {
            seats[day * POSTS + post] = who;
        }

        /** The pair that sits on a day, or NOBODY. */
        int pairOn(int day) {
            int p = seats[day * POSTS];
            int q = seats[day * POSTS + 1];
            return p == NOBODY || q == NOBODY || p == q ? NOBODY : pairOf(p, q);
        }

        int sittings() {
            int many = 0;
            for (int day = 0; day < DAYS; day++) {
                if (pairOn(day) != NOBODY) {
                    many++;
                }
            }
            return many;
        }

        int daysOf(int pair) {
            int days = 0;
            for (int day = 0; day < DAYS; day++) {
                if (pairOn(day) == pair) {
                    days |= 1 << day;
                }
            }
            return days;
        }

        /** The last day ahead of a day on which a pair sat; -1: never. */
        int lastDayOf(int pair, int ahead) {
            for (int day = ahead - 1; day >= 0; day--) {
                if (pairOn(day) == pair) {
                    return day;
                }
            }
            return -1;
        }

        boolean satInGap(int pair, int day) {
            int last = lastDayOf(pair, day);
            return last >= 0 && last >= day - laws[GAP];
        }

        int lossOf(int pair) {
            int sum = 0;
            for (int day = 0; day < DAYS; day++) {
                if (pairOn(day) == pair) {
                    sum += losses[day];
                }
            }
            return sum;
        }

        int pairOfMostLoss() {
            int most = -1;
            int first = 0;
            for (int p = 0; p < people; p++) {
                for (int q = p + 1; q < people; q++) {
                    int sum = lossOf(pairOf(p, q));
                    if (sum > most) {
                        most = sum;
                        first = pairOf(p, q);
                    }
                }
            }
            return first;
        }
    }

    /** THE TAPE, and its text read into a house of its own, so that a fault leaves the other as it was. */
    private static final class Tape {
        private static final int MOST = 200;
        private static final int PERSON = 0, KIN = 1, TRUST = 2, AWAY = 3, FIRST_LAW = 4;
        private static final int BLANK = 32, END = ';';

        private final int[] bytes;
        private final House draft;
        private int length;
        private int at;
        private int fault;

        Tape() {
            bytes = new int[MOST];
            draft = new House();
            length = 0;
            at = 0;
            fault = -1;
        }

        int add(long eight, int n) {
            for (int i = 0; i < n; i++) {
                bytes[length] = (int) (eight >>> (8 * i)) & 255;
                length++;
            }
            return length;
        }

        /** The text becomes the house (-1), or the place of its fault. */
        int tell(House home) {
            draft.emptyBut(home.laws);
            at = 0;
            fault = -1;
            skipBlanks();
            for (int i = 0; i < MOST && fault < 0 && at < length; i++) {
                readStatement();
                skipBlanks();
            }
            if (fault < 0) {
                home.become(draft);
            }
            length = 0;
            return fault;
        }

        private void readStatement() {
            int end = endOfName();
            int name = PERSON;
            while (name < FIRST_LAW + LAWS && !stands(nameOf(name), end)) {
                name++;
            }
            if (name >= FIRST_LAW + LAWS || (name == PERSON && draft.people >= PEOPLE)) {
                fail(at);
                return;
            }
            at = end;
            switch (name) {
                case PERSON: draft.addPerson(); break;
                case KIN: readKin(); break;
                case TRUST: readTrust(); break;
                case AWAY: readAway(); break;
                default: readLaw(name - FIRST_LAW); break;
            }
            readEnd();
        }

        private static String nameOf(int name) {
            switch (name) {
                case PERSON: return "person";
                case KIN: return "kin";
                case TRUST: return "trust";
                case AWAY: return "away";
                case FIRST_LAW + TAKE: return "take";
                case FIRST_LAW + PAIN: return "pain";
                case FIRST_LAW + EYE: return "eye";
                case FIRST_LAW + COUNTER: return "counter";
                case FIRST_LAW + READER: return "reader";
                case FIRST_LAW + FADE: return "fade";
                case FIRST_LAW + TELL: return "tell";
                default: return "gap";
            }
        }

        private void readKin() {
            int p = readNumber(draft.people - 1, NOBODY);
            int q = readNumber(draft.people - 1, p);
            if (fault < 0) {
                draft.setKin(p, q, true);
            }
        }

        private void readTrust() {
            int p = readNumber(draft.people - 1, NOBODY);
            int q = readNumber(draft.people - 1, p);
            int v = readNumber(MOST_TRUST, NOBODY);
            if (fault < 0) {
                draft.trustAtFirst[House.pairOf(p, q)] = v;
            }
        }

        private void readAway() {
            int p = readNumber(draft.people - 1, NOBODY);
            readWord("on");
            boolean more = true;
            for (int i = 0; i < MOST && more; i++) {
                int day = readNumber(DAYS - 1, NOBODY);
                if (fault < 0) {
                    draft.setAway(p, day, true);
                }
                skipBlanks();
                more = fault < 0 && stands("and", endOfName());
                if (more) {
                    readWord("and");
                }
            }
        }

        private void readLaw(int law) {
            int v = readNumber(House.MOST_OF_LAW[law], NOBODY);
            if (fault < 0) {
                draft.laws[law] = v;
            }
        }

        private void readEnd() {
            skipBlanks();
            if (at >= length || bytes[at] != END) {
                fail(at);
            }
            at++;
        }

        private void readWord(String word) {
            skipBlanks();
            int end = endOfName();
            if (!stands(word, end)) {
                fail(at);
            }
            at = end;
        }

        private int readNumber(int most, int butNot) {
            skipBlanks();
            int from = at;
            int value = 0;
            while (at < length && isDigit(bytes[at])) {
                value = Math.min(value * 10 + bytes[at] - '0', 1000);
                at++;
            }
            int digits = at - from;
            if (digits < 1 || digits > 2 || value > most || value == butNot) {
                fail(from);
            }
            return value;
        }

        private static boolean isDigit(int sign) {
            return sign >= '0' && sign <= '9';
        }

        // The first fault counts: what is read behind it only runs out.
        private void fail(int place) {
            if (fault < 0) {
                fault = Math.min(place, length);
            }
        }

        private void skipBlanks() {
            while (at < length && bytes[at] == BLANK) {
                at++;
            }
        }

        private int endOfName() {
            int end = at;
            while (end < length && bytes[end] >= 'a' && bytes[end] <= 'z') {
                end++;
            }
            return end;
        }

        private boolean stands(String word, int end) {
            if (end - at != word.length()) {
                return false;
            }
            for (int i = 0; i < word.length(); i++) {
                if (bytes[at + i] != word.charAt(i)) {
                    return false;
                }
            }
            return true;
        }
    }

    /** What two of one mind could take, and what is broken. */
    private static final class Judge {
        private static final int TWELVE = 12, SURPRISED = 6;

        private final House home;

        Judge(House home) {
            this.home = home;
        }

        int trustOfPair(int pair, int ahead) {
            int trust = home.trustAtFirst[pair];
            for (int day = 0; day < ahead; day++) {
                trust = trustAfter(trust, home.pairOn(day) == pair);
            }
            return trust;
        }

        int trustAfter(int trust, boolean sat) {
            return sat ? Math.min(trust + 1, MOST_TRUST) : Math.max(trust - home.laws[FADE], 0);
        }

        /** SEEN of a pair with these at THE BOOK and THE COUNT (or NOBODY). */
        int seenOf(int pair, int book, int count, boolean surprise) {
            int kin = home.kinOf[pair / PEOPLE] | home.kinOf[pair % PEOPLE];
            int seen = home.laws[EYE];
            if (count != NOBODY && (kin >> count & 1) == 0) {
                seen += home.laws[COUNTER];
            }
            if (book != NOBODY && (kin >> book & 1) == 0) {
                seen += home.laws[READER];
            }
            if (surprise) {
                seen += SURPRISED;
            }
            return Math.min(seen, TWELVE);
        }

        /** SEEN of a day on which two sit. */
        int seenOn(int day) {
            return seenOf(home.pairOn(day), home.at(day, BOOK), home.at(day, COUNT), home.hasSurprise(day));
        }

        int worthOf(int trust, int seen) {
            return TWELVE * home.laws[TAKE] * trust - home.laws[PAIN] * seen;
        }

        /** WORTH of a day on which two sit. */
        int worthOn(int day) {
            return worthIf(day, home.hasSurprise(day));
        }

        private int worthIf(int day, boolean surprise) {
            int pair = home.pairOn(day);
            int seen = seenOf(pair, home.at(day, BOOK), home.at(day, COUNT), surprise);
            return worthOf(trustOfPair(pair, day), seen);
        }

        boolean isPaying(int worth, int tell) {
            return worth > 0 && worth > 2 * TWELVE * tell;
        }

        int payingDays() {
            return payingDaysBy(home.laws[TELL]);
        }

        private int payingDaysBy(int tell) {
            int days = 0;
            for (int day = 0; day < DAYS; day++) {
                if (home.pairOn(day) != NOBODY && isPaying(worthOn(day), tell)) {
                    days |= 1 << day;
                }
            }
            return days;
        }

        int leastTell() {
            for (int tell = 0; tell <= MOST_TELL; tell++) {
                if (payingDaysBy(tell) == 0) {
                    return tell;
                }
            }
            return NONE;
        }

        int surprisesNeeded() {
            int tell = home.laws[TELL];
            int days = 0;
            for (int day = 0; day < DAYS; day++) {
                if (home.pairOn(day) != NOBODY && isPaying(worthIf(day, false), tell)) {
                    if (isPaying(worthIf(day, true), tell)) {
                        return NONE;
                    }
                    days |= 1 << day;
                }
            }
            return days;
        }

        int brokenOn(int day) {
            if (somebodyIsAway(day)) {
                return 1;
            }
            if (somebodyIsTwice(day)) {
                return 2;
            }
            int pair = home.pairOn(day);
            if (pair == NOBODY) {
                return 0;
            }
            if (home.areKin(pair / PEOPLE, pair % PEOPLE)) {
                return 3;
            }
            if (home.satInGap(pair, day)) {
                return 4;
            }
            return isPaying(worthIf(day, home.hasSurprise(day)), home.laws[TELL]) ? 5 : 0;
        }

        private boolean somebodyIsAway(int day) {
            for (int post = 0; post < POSTS; post++) {
                int who = home.at(day, post);
                if (who != NOBODY && home.isAway(who, day)) {
                    return true;
                }
            }
            return false;
        }

        private boolean somebodyIsTwice(int day) {
            int met = 0;
            for (int post = 0; post < POSTS; post++) {
                int who = home.at(day, post);
                if (who != NOBODY) {
                    if ((met >> who & 1) == 1) {
                        return true;
                    }
                    met |= 1 << who;
                }
            }
            return false;
        }
    }

    /** Fractions without a common divisor: the best of two, and how odd it is that they sat so often. */
    private static final class Odds {
        private static final int STEPS = 200;

        private final House home;
        private final Judge mind;
        private long above;
        private long below;

        Odds(House home, Judge mind) {
            this.home = home;
            this.mind = mind;
            above = 0;
            below = 1;
        }

        /** BEST: each day on which they sit brings one more 12 below the line. */
        void findBest(int pair) {
            above = 0;
            below = 1;
            for (int day = DAYS - 1; day >= 0; day--) {
                if (home.pairOn(day) == pair) {
                    int seen = mind.seenOn(day);
                    long take = (long) home.laws[TAKE] * mind.trustOfPair(pair, day);
                    long taken = (12 - seen) * (take * below + above) - seen * (home.laws[PAIN] * below);
                    above = Math.max(12 * above, taken);
                    below = 12 * below;
                }
            }
            reduce();
        }

        /** BY LOT: of sittings, each theirs by one in so many pairs, at least as many as theirs were. */
        void findLot(int pair) {
            int sittings = home.sittings();
            int theirs = Integer.bitCount(home.daysOf(pair));
            long pairs = home.people * (home.people - 1) / 2;
            above = 0;
            for (int many = theirs; many <= sittings; many++) {
                above += ways(sittings, many) * power(pairs - 1, sittings - many);
            }
            below = power(pairs, sittings);
            reduce();
        }

        private static long ways(int of, int many) {
            long ways = 1;
            for (int i = 1; i <= many; i++) {
                ways = ways * (of - many + i) / i;
            }
            return ways;
        }

        private static long power(long base, int times) {
            long product = 1;
            for (int i = 0; i < times; i++) {
                product *= base;
            }
            return product;
        }

        private void reduce() {
            long a = above;
            long b = below;
            for (int i = 0; i < STEPS && b != 0; i++) {
                long rest = a % b;
                a = b;
                b = rest;
            }
            if (a > 1) {
                above /= a;
                below /= a;
            }
        }
    }

    /** Ways to sit by which nothing is broken: a day mended, and rows of days ahead. */
    private static final class Ways {
        private static final int FARTHEST = 3;

        private final House home;
        private final Judge mind;
        private final int[] trusts;
        private final int[][] bounds;
        private final int[] chosen;
        private int changes;
        private int digits;

        Ways(House home, Judge mind) {
            this.home = home;
            this.mind = mind;
            trusts = new int[PEOPLE * PEOPLE];
            bounds = new int[FARTHEST][PEOPLE * PEOPLE];
            chosen = new int[FARTHEST];
            changes = 0;
            digits = 0;
        }

        /** MENDED into changes and digits; false: there is no way. */
        boolean mend(int day) {
            changes = POSTS + 1;
            for (int p = 0; p < home.people; p++) {
                for (int q = 0; q < home.people; q++) {
                    if (p != q && maySit(p, q, day) && !home.satInGap(House.pairOf(p, q), day)) {
                        mendBy(day, p, q);
                    }
                }
            }
            return changes <= POSTS;
        }

        // Only fewer changes than the best so far count, so that of several ways the first one stays.
        private void mendBy(int day, int p, int q) {
            int pair = House.pairOf(p, q);
            int trust = mind.trustOfPair(pair, day);
            int till = change(day, 0, p) + change(day, 1, q);
            for (int book = 0; book < home.people; book++) {
                for (int count = 0; count < home.people; count++) {
                    int all = till + change(day, BOOK, book) + change(day, COUNT, count);
                    if (all < changes && book != count && isFree(book, pair, day) && isFree(count, pair, day)
                            && !wouldPay(pair, trust, book, count, day)) {
                        changes = all;
                        digits = p | q << 3 | book << 6 | count << 9;
                    }
                }
            }
        }

        private int change(int day, int post, int who) {
            return home.at(day, post) == who ? 0 : 1;
        }

        private boolean maySit(int p, int q, int day) {
            return !home.isAway(p, day) && !home.isAway(q, day) && !home.areKin(p, q);
        }

        private boolean isFree(int who, int pair, int day) {
            return who != pair / PEOPLE && who != pair % PEOPLE && !home.isAway(who, day);
        }

        private boolean wouldPay(int pair, int trust, int book, int count, int day) {
            int seen = mind.seenOf(pair, book, count, home.hasSurprise(day));
            return mind.isPaying(mind.worthOf(trust, seen), home.laws[TELL]);
        }

        /** AHEAD: trust and bounds of each pair first, then all rows by them. */
        int rowsAhead(int from, int n) {
            for (int p = 0; p < home.people; p++) {
                for (int q = p + 1; q < home.people; q++) {
                    int pair = House.pairOf(p, q);
                    trusts[pair] = mind.trustOfPair(pair, from);
                    int last = home.lastDayOf(pair, from);
                    for (int k = 0; k < n; k++) {
                        boolean inGap = last >= 0 && last >= from + k - home.laws[GAP];
                        bounds[k][pair] = inGap ? -1 : mostTrust(pair, from + k);
                    }
                }
            }
            return countRows(this, 0, n);
        }

        // The most trust by which nothing would be broken if the pair sat on the day; -1: none at all.
        private int mostTrust(int pair, int day) {
            int book = home.at(day, BOOK);
            int count = home.at(day, COUNT);
            boolean stands = maySit(pair / PEOPLE, pair % PEOPLE, day)
                    && (book == NOBODY || isFree(book, pair, day))
                    && (count == NOBODY || isFree(count, pair, day))
                    && (book == NOBODY || book != count);
            if (!stands) {
                return -1;
            }
            int trust = MOST_TRUST;
            while (trust >= 0 && wouldPay(pair, trust, book, count, day)) {
                trust--;
            }
            return trust;
        }

        private static int countRows(Ways ways, int k, int n) {
            if (k >= n || k >= FARTHEST) {
                return 1;
            }
            int rows = 0;
            for (int p = 0; p < ways.home.people; p++) {
                for (int q = p + 1; q < ways.home.people; q++) {
                    int pair = House.pairOf(p, q);
                    if (ways.bounds[k][pair] >= 0 && ways.standsBehindChosen(pair, k)) {
                        ways.chosen[k] = pair;
                        rows += countRows(ways, k + 1, n);
                    }
                }
            }
            return rows;
        }

        private boolean standsBehindChosen(int pair, int k) {
            int trust = trusts[pair];
            for (int j = 0; j < k; j++) {
                boolean sat = chosen[j] == pair;
                if (sat && k - j <= home.laws[GAP]) {
                    return false;
                }
                trust = mind.trustAfter(trust, sat);
            }
            return trust <= bounds[k][pair];
        }
    }

    /** PLANS by their numbers, and z, from which they draw. */
    private static final class Plans {
        private static final int MOST = 4, MOST_A = 4095, FIRST_Z = 1;

        private final int[] kinds;
        private final int[] as;
        private final int[] seated;
        private int count;
        private int z;

        Plans() {
            kinds = new int[MOST];
            as = new int[MOST];
            seated = new int[POSTS];
            count = 0;
            z = FIRST_Z;
        }

        void become(Plans other) {
            System.arraycopy(other.kinds, 0, kinds, 0, MOST);
            System.arraycopy(other.as, 0, as, 0, MOST);
            count = other.count;
            z = other.z;
        }

        boolean has(int plan) {
            return plan >= 0 && plan < count;
        }

        int add(int kind, int a) {
            kinds[count] = kind;
            as[count] = a;
            count++;
            return count - 1;
        }

        /** A plan fills a day: its posts as digits, or NONE. */
        int fillDay(House home, int plan, int day) {
            int kind = kinds[plan];
            if (kind == Acts.TOLD) {
                if (!seatTold(home, as[plan])) {
                    return NONE;
                }
            } else {
                int present = presentFor(home, plan, day);
                if (Integer.bitCount(present) < POSTS) {
                    return NONE;
                }
                if (kind == Acts.TURN || kind == Acts.REST) {
                    seatByTurn(home, present, day);
                } else {
                    seatByDraw(present);
                    if (kind == Acts.COUNTED) {
                        seatStranger(home, present);
                    }
                }
            }
            return sitDown(home, day);
        }

        private int presentFor(House home, int plan, int day) {
            int present = 0;
            int resting = NOBODY;
            if (kinds[plan] == Acts.REST && home.people > 0) {
                resting = (as[plan] + day) % home.people;
            }
            for (int p = 0; p < home.people; p++) {
                if (p != resting && !home.isAway(p, day)) {
                    present |= 1 << p;
                }
            }
            return present;
        }

        private boolean seatTold(House home, int a) {
            for (int post = 0; post < POSTS; post++) {
                seated[post] = a >> (3 * post) & 7;
                if (!home.isPerson(seated[post])) {
                    return false;
                }
            }
            return true;
        }

        private void seatByTurn(House home, int present, int day) {
            int pair = longestApart(home, present, day, false);
            if (pair == NOBODY) {
                pair = longestApart(home, present, day, true);
            }
            seated[0] = pair / PEOPLE;
            seated[1] = pair % PEOPLE;
            int others = present & ~(1 << seated[0]) & ~(1 << seated[1]);
            seated[BOOK] = leastOf(others);
            seated[COUNT] = leastOf(others & ~(1 << seated[BOOK]));
        }

        private static int longestApart(House home, int present, int day, boolean kinToo) {
            int pair = NOBODY;
            int longest = DAYS;
            for (int p = 0; p < PEOPLE; p++) {
                for (int q = p + 1; q < PEOPLE; q++) {
                    if (isIn(present, p) && isIn(present, q) && (kinToo || !home.areKin(p, q))) {
                        int last = home.lastDayOf(House.pairOf(p, q), day);
                        if (last < longest) {
                            longest = last;
                            pair = House.pairOf(p, q);
                        }
                    }
                }
            }
            return pair;
        }

        private void seatByDraw(int present) {
            int left = present;
            for (int post = 0; post < POSTS; post++) {
                z = z * 1103515245 + 12345;
                seated[post] = drawFrom(left);
                left &= ~(1 << seated[post]);
            }
        }

        private int drawFrom(int left) {
            int many = Integer.bitCount(left);
            int place = many > 0 ? (z >>> 16) % many : 0;
            for (int i = 0; i < place; i++) {
                left &= left - 1;
            }
            return leastOf(left);
        }

        private void seatStranger(House home, int present) {
            int kin = home.kinOf[seated[0]] | home.kinOf[seated[1]];
            int others = present & ~(1 << seated[0]) & ~(1 << seated[1]) & ~(1 << seated[BOOK]);
            int strangers = others & ~kin;
            if (strangers != 0) {
                seated[COUNT] = leastOf(strangers);
            }
        }

        private int sitDown(House home, int day) {
            int digits = 0;
            for (int post = 0; post < POSTS; post++) {
                home.seat(day, post, seated[post]);
                digits |= seated[post] << (3 * post);
            }
            return digits;
        }

        private static boolean isIn(int set, int p) {
            return (set >> p & 1) == 1;
        }

        private static int leastOf(int set) {
            for (int p = 0; p < PEOPLE; p++) {
                if (isIn(set, p)) {
                    return p;
                }
            }
            return NOBODY;
        }
    }

    /** ROWS, written from the house and read against it. */
    private static final class Rows {
        private static final int WIDTH = 3;

        private final House home;
        private final Judge mind;
        private final int[] cells;
        private int count;

        Rows(House home, Judge mind) {
            this.home = home;
            this.mind = mind;
            cells = new int[DAYS * WIDTH];
            count = 0;
        }

        void drop() {
            count = 0;
        }

        boolean has(int i, int what) {
            return i >= 0 && i < count && what >= 0 && what < WIDTH;
        }

        int write() {
            for (int day = 0; day < DAYS; day++) {
                for (int what = 0; what < WIDTH; what++) {
                    cells[day * WIDTH + what] = due(day, what);
                }
            }
            count = DAYS;
            return count;
        }

        /** The first row that isn't right, and 1 more; 0: all is right. */
        int firstWrong() {
            for (int day = 0; day < count; day++) {
                for (int what = 0; what < WIDTH; what++) {
                    if (cells[day * WIDTH + what] != due(day, what)) {
                        return day + 1;
                    }
                }
            }
            return 0;
        }

        private int due(int day, int what) {
            int pair = home.pairOn(day);
            switch (what) {
                case 0: return pair;
                case 1: return pair == NOBODY ? 0 : mind.seenOn(day);
                default: return mind.brokenOn(day);
            }
        }
    }

    /** ACTS of a plan held as a thing of its kind, and THE TRACE of the bodies that ran. */
    private static final class Acts {
        private static final int KINDS = 6, ACTS = 4;
        private static final int PLAIN = 0, TURN = 1, DRAW = 2, COUNTED = 3, REST = 4, TOLD = 5;
        private static final int SITS = 0, COUNTS = 1, SHARES = 2, TELLS = 3;
        private static final int LONGEST_TRACE = 30, DEEPEST = 40;
        private static final int[] KIND_ABOVE = {-1, PLAIN, PLAIN, DRAW, TURN, PLAIN};
        // For each kind its own bodies of the four acts; 0: the one of the kind above.
        private static final int[] BODIES = {
            10, 11, 12, 13,
            0, 20, 0, 0,
            30, 0, 0, 31,
            40, 41, 0, 0,
            51, 0, 50, 0,
            0, 0, 61, 60,
        };

        private final int[] noted;
        private int bodies;
        private int kind;
        private int number;
        private int a;
        private boolean parted;

        Acts() {
            noted = new int[LONGEST_TRACE];
            bodies = 0;
            kind = PLAIN;
            number = 0;
            a = 0;
            parted = false;
        }

        static boolean isUnder(int kind, int top) {
            int at = kind;
            for (int i = 0; i < KINDS && at >= 0; i++) {
                if (at == top) {
                    return true;
                }
                at = KIND_ABOVE[at];
            }
            return false;
        }

        void forget() {
            bodies = 0;
        }

        int perform(int kind, int number, int a, int act, int x) {
            this.kind = kind;
            this.number = number;
            this.a = a;
            parted = false;
            int answer = run(this, bodyOf(kind, act), x, 0);
            return parted ? PARTED : answer;
        }

        private static int bodyOf(int kind, int act) {
            int at = kind;
            for (int i = 0; i < KINDS && at >= 0; i++) {
                if (BODIES[at * ACTS + act] != 0) {
                    return BODIES[at * ACTS + act];
                }
                at = KIND_ABOVE[at];
            }
            return 0;
        }

        // After a parting by 0 no body begins any more: its answer is the whole answer.
        private static int run(Acts of, int body, int x, int depth) {
            if (of.parted || depth > DEEPEST) {
                return 0;
            }
            of.note(body);
            int deeper = depth + 1;
            switch (body) {
                case 10: return x + of.number;
                case 11: return run(of, bodyOf(of.kind, SITS), x, deeper) * 2;
                case 12: return of.share(x);
                case 13: return run(of, bodyOf(of.kind, COUNTS), x, deeper) ^ of.a;
                case 20: return run(of, bodyOf(PLAIN, COUNTS), x, deeper) - of.a;
                case 30: return run(of, bodyOf(PLAIN, SITS), x, deeper) * 3;
                case 31: return run(of, bodyOf(PLAIN, TELLS), x, deeper) + run(of, bodyOf(of.kind, SHARES), of.number, deeper);
                case 40: return 0 - run(of, bodyOf(DRAW, SITS), x, deeper);
                case 41: return run(of, bodyOf(DRAW, COUNTS), x, deeper) + run(of, bodyOf(of.kind, SITS), of.number, deeper);
                case 50: return run(of, bodyOf(TURN, SHARES), x + 2, deeper) ^ 1;
                case 51: return run(of, bodyOf(TURN, SITS), x, deeper) - of.number;
                case 60: return run(of, bodyOf(PLAIN, TELLS), x, deeper) * 2;
                case 61: return run(of, bodyOf(PLAIN, SHARES), x, deeper) + run(of, bodyOf(of.kind, SITS), of.a, deeper);
                default: return 0;
            }
        }

        private int share(int x) {
            int among = a - number;
            if (among == 0) {
                parted = true;
                return 0;
            }
            return x / among;
        }

        private void note(int body) {
            if (bodies < LONGEST_TRACE) {
                noted[bodies] = body;
                bodies++;
            }
        }
    }

    /** SHEETS, and SHELVES that hold a plan's number or a row; a row held stays what it was when its sheet changes. */
    private static final class Host {
        private static final int PLACES = 4, LONGEST = 40;
        private static final int MISSING = -1, BYTES = 0, SHORTS = 1, INTS = 2, SORTS = 4, SORTS_FROM = 10;
        private static final int A_PLAN = 0, A_ROW = 1, EMPTY = 2;

        private final int[] sorts;
        private final int[] lengths;
        private final int[][] items;
        private final int[] heldWhat;
        private final int[] heldSort;
        // A plan's number, or how many items a row has: no more of a row is ever asked.
        private final int[] held;

        Host() {
            sorts = new int[PLACES];
            lengths = new int[PLACES];
            items = new int[PLACES][LONGEST];
            heldWhat = new int[PLACES];
            heldSort = new int[PLACES];
            held = new int[PLACES];
            Arrays.fill(sorts, MISSING);
            Arrays.fill(heldWhat, EMPTY);
        }

        int lay(int sheet, int sort, int n) {
            sorts[sheet] = sort;
            lengths[sheet] = n;
            Arrays.fill(items[sheet], 0);
            return 1;
        }

        boolean holds(int sheet, int i) {
            return i >= 0 && i < lengths[sheet];
        }

        int write(int sheet, int i, int v) {
            switch (sorts[sheet]) {
                case BYTES: items[sheet][i] = (byte) v; break;
                case SHORTS: items[sheet][i] = (short) v; break;
                default: items[sheet][i] = v; break;
            }
            return 1;
        }

        int shelvePlan(int shelf, int plan) {
            heldWhat[shelf] = A_PLAN;
            held[shelf] = plan;
            return 1;
        }

        int shelveRow(int shelf, int sheet) {
            heldWhat[shelf] = sorts[sheet] == MISSING ? EMPTY : A_ROW;
            heldSort[shelf] = sorts[sheet];
            held[shelf] = lengths[sheet];
            return 1;
        }

        int clear(int shelf) {
            heldWhat[shelf] = EMPTY;
            return 1;
        }

        boolean heldRow(int shelf) {
            return heldWhat[shelf] == A_ROW;
        }

        boolean heldPlan(int shelf) {
            return heldWhat[shelf] == A_PLAN;
        }
    }
}
