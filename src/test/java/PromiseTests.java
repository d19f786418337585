/** A test for each promise of the document: ordinary inputs, the edges that it names, and wrong inputs. */
public final class PromiseTests extends Checks {
    public static void main(String[] args) {
        newObject();
        feed();
        houseTells();
        houseFaults();
        houseKeepsAndDrops();
        person();
        kin();
        trust();
        away();
        lawsSetAndRead();
        posts();
        surprise();
        loss();
        trustOn();
        seen();
        worth();
        pays();
        best();
        enough();
        needed();
        broken();
        mended();
        ahead();
        lot();
        sat();
        suspects();
        plan();
        fillByTurn();
        fillByRest();
        fillByDraw();
        fillByCount();
        fillByCountNotKin();
        fillAsTold();
        seed();
        rows();
        sheets();
        shelves();
        acts();
        actsParted();
        days();
        many();
        keepAndAgain();
        end();
    }

    // ---- the house

    private static void newObject() {
        TillPairs x = new TillPairs();
        for (int what = 0; what < 6; what++) {
            due(1, "many(" + what + ")", x.many(what), 0);
        }
        due(1, "again()", x.again(), NONE);
        due(1, "seed(5)", x.seed(5), 1);
        due(1, "postOf(9, 3)", x.postOf(9, 3), -9);
        due(1, "item of a missing sheet", x.item(0, 0, 0), -11);
        due(1, "taken of nothing", x.taken(3, 0), -11);
        due(1, "row(0, 0)", x.row(0, 0), -9);
        int[] laws = {5, 30, 2, 4, 1, 1, 0, 2};
        for (int i = 0; i < 8; i++) {
            due(1, "law(" + i + ")", x.law(i), laws[i]);
        }
    }

    private static void feed() {
        TillPairs x = new TillPairs();
        due(2, "n 0", x.feed(1, 0), BAD);
        due(2, "n 9", x.feed(1, 9), BAD);
        due(2, "n -1", x.feed(1, -1), BAD);
        for (int i = 1; i <= 24; i++) {
            due(2, "feed " + i, x.feed(0x2020202020202020L, 8), 8 * i);
        }
        due(2, "up to 199", x.feed(0x20202020202020L, 7), 199);
        due(2, "two more", x.feed(0x2020, 2), FULL);
        due(2, "n 9 when full", x.feed(0, 9), BAD);
        due(2, "many(4)", x.many(4), 199);
        due(2, "the last one", x.feed(0x20, 1), 200);
        due(2, "one more", x.feed(0x20, 1), FULL);
        due(2, "all blanks", x.house(), 0);
        x.feed(0x3b6e6f73726570L, 7);
        due(2, "the lowest byte first", x.house(), 1);
        x.feed(0xFF3b6e6f73726570L, 7);
        due(2, "the eighth byte is not taken", x.house(), 1);
        x.feed(0xFF3b6e6f73726570L, 8);
        due(2, "the eighth byte is", x.house(), -107);
    }

    private static void houseTells() {
        TillPairs x = new TillPairs();
        due(3, "three people", told(x, "  person;person ;  person  ;  kin 2 0;trust 0 1 7;trust 1 0 8;kin 0 2;"), 3);
        due(3, "kin are kin", x.kin(0, 2, true), 0);
        due(3, "others are not", x.kin(0, 1, false), 0);
        due(3, "the last trust", x.trust(0, 1, 0), 8);
        due(3, "away", told(x, "person;person;away 1 on 0 and 09 and 3 and 3;gap 9;take 20;take 00;"), 2);
        due(3, "away on 0", x.away(1, 0, true), 0);
        due(3, "away on 9", x.away(1, 9, true), 0);
        due(3, "away on 3", x.away(1, 3, true), 0);
        due(3, "not on 1", x.away(1, 1, false), 0);
        due(3, "not the other", x.away(0, 0, false), 0);
        due(3, "the last take", x.law(0), 0);
        due(3, "gap", x.law(7), 9);
        due(3, "trust by the text alone", x.trust(0, 1, 0), 0);
        due(3, "all laws", told(x, "take 20;pain 99;eye 12;counter 12;reader 12;fade 3;tell 99;gap 9;"), 0);
        int[] most = {20, 99, 12, 12, 12, 3, 99, 9};
        for (int i = 0; i < 8; i++) {
            due(3, "told law " + i, x.law(i), most[i]);
        }
        due(3, "eight people", told(x, "person;person;person;person;person;person;person;person;"), 8);
        due(3, "a name and a number touch", told(x, "take5;"), 0);
        due(3, "and it counts", x.law(0), 5);
    }

    private static void fault(String text, int place) {
        TillPairs x = new TillPairs();
        due(3, "fault of '" + text + "'", told(x, text), -100 - place);
        due(3, "the tape after '" + text + "'", x.many(4), 0);
        due(3, "people after '" + text + "'", x.many(0), 0);
    }

    private static void houseFaults() {
        fault("person", 6);
        fault("person  ", 8);
        fault("Person;", 0);
        fault(" 7;", 1);
        fault("people;", 0);
        fault("pers", 0);
        fault("person person;", 7);
        fault("person 1;", 7);
        fault("person;\n", 7);
        fault("kin 0 1;", 4);
        fault("person;kin 0 0;", 13);
        fault("person;person;kin 0 1", 21);
        fault("person;person;kin 0 1 1;", 22);
        fault("person;person;kin 0;", 19);
        fault("person;person;kin 0 2;", 20);
        fault("person;person;kin 01;", 20);
        fault("person;person;kin 001 0;", 18);
        fault("person;person;kin one 0;", 18);
        fault("person;person;trust 0 1;", 23);
        fault("person;person;trust 0 1 10;", 24);
        fault("person;person;trust 1 1 1;", 22);
        fault("person;away 0;", 13);
        fault("person;away 0 on", 16);
        fault("person;away 0 at 1;", 14);
        fault("person;away 0 on 10;", 17);
        fault("person;away 0 on 1 and;", 22);
        fault("person;away 0 on 1 or 2;", 19);
        fault("person;away 0 on 1 and 2 and", 28);
        fault("person;away 0 on 1 and 2 andy 3;", 25);
        fault("person;away 1 on 1;", 12);
        fault("take 21;", 5);
        fault("pain 100;", 5);
        fault("eye 13;", 4);
        fault("counter 13;", 8);
        fault("reader 13;", 7);
        fault("fade 4;", 5);
        fault("tell 100;", 5);
        fault("gap 10;", 4);
        fault("gap -1;", 4);
        fault("take ;", 5);
        fault("take", 4);
        fault("on 1;", 0);
        fault(";", 0);
        fault("person;person;person;person;person;person;person;person; person;", 57);
        fault("gap 9999999999999999999999;", 4);
        fault("xerson;", 0);
        fault("persoz;", 0);
        fault("person;person;trust 2 1 1;", 20);
        fault("person;person;trust 0 2 1;", 22);
        fault("person;away 0 xn 1;", 14);
        String blanks = " ".repeat(194);
        fault(blanks + "person", 200);
        fault(blanks + "take 5", 200);
        fault(blanks + "take 21".substring(1), 194);
        fault(blanks + "perzzz", 194);
        fault(" ".repeat(183) + "person;away 0 on ", 200);
    }

    private static void houseKeepsAndDrops() {
        TillPairs x = with(2);
        x.kin(0, 1, true);
        till(x, 4, 0, 1);
        till(x, 9, 0, 1);
        x.surprise(0, true);
        x.surprise(4, true);
        x.loss(4, 9);
        x.loss(9, 9);
        x.set(0, 11);
        x.plan(2, 3);
        x.seed(77);
        x.prove();
        due(3, "a fault changes nothing", told(x, "person;take 3;;"), -114);
        due(3, "people after a fault", x.many(0), 2);
        due(3, "take after a fault", x.law(0), 11);
        due(3, "posts after a fault", x.postOf(4, 0), 0);
        due(3, "rows after a fault", x.many(3), 10);
        due(3, "judge after a fault", x.judge(), 0);
        due(3, "another house", told(x, "person;person;person;"), 3);
        due(3, "no rows", x.many(3), 0);
        due(3, "empty posts", x.postOf(4, 0), -9);
        due(3, "empty posts on the last day", x.postOf(9, 1), -9);
        due(3, "no surprise", x.surprise(4, false), 0);
        due(3, "no surprise on the first day", x.surprise(0, false), 0);
        due(3, "no loss", x.loss(4, 0), 0);
        due(3, "no loss on the last day", x.loss(9, 0), 0);
        due(3, "nobody is kin", x.kin(2, 1, false), 0);
        due(3, "no kin", x.kin(0, 1, false), 0);
        due(3, "laws untold stay", x.law(0), 11);
        due(3, "plans stay", x.planOf(0, 1), 3);
        due(3, "z stays", x.seed(0), 77);
    }

    private static void person() {
        TillPairs x = new TillPairs();
        for (int i = 0; i < 8; i++) {
            due(4, "person " + i, x.person(), i);
        }
        due(4, "a ninth", x.person(), FULL);
        due(4, "how many", x.many(0), 8);
    }

    private static void kin() {
        TillPairs x = with(3);
        due(5, "not at first", x.kin(0, 1, false), 0);
        due(5, "new", x.kin(0, 1, true), 1);
        due(5, "the other way round", x.kin(1, 0, true), 0);
        due(5, "others", x.kin(1, 2, false), 0);
        due(5, "no more", x.kin(1, 0, false), 1);
        due(5, "no more, again", x.kin(0, 1, false), 0);
        due(5, "the same", x.kin(2, 2, true), BAD);
        due(5, "no such p", x.kin(3, 1, true), BAD);
        due(5, "no such q", x.kin(1, -1, true), BAD);
    }

    private static void trust() {
        TillPairs x = with(2);
        due(6, "0 at first", x.trust(0, 1, 9), 0);
        due(6, "of the two", x.trust(1, 0, 4), 9);
        due(6, "10", x.trust(0, 1, 10), BAD);
        due(6, "-1", x.trust(0, 1, -1), BAD);
        due(6, "the same", x.trust(1, 1, 1), BAD);
        due(6, "no such", x.trust(1, 2, 1), BAD);
        due(6, "as it was", x.trust(0, 1, 4), 4);
    }

    private static void away() {
        TillPairs x = with(1);
        due(7, "not at first", x.away(0, 0, false), 0);
        due(7, "new", x.away(0, 9, true), 1);
        due(7, "not new", x.away(0, 9, true), 0);
        due(7, "back", x.away(0, 9, false), 1);
        due(7, "day 10", x.away(0, 10, true), BAD);
        due(7, "day -1", x.away(0, -1, true), BAD);
        due(7, "no such one", x.away(1, 0, true), BAD);
        due(7, "no such one", x.away(-1, 0, true), BAD);
    }

    private static void lawsSetAndRead() {
        TillPairs x = new TillPairs();
        int[] first = {5, 30, 2, 4, 1, 1, 0, 2};
        int[] most = {20, 99, 12, 12, 12, 3, 99, 9};
        for (int i = 0; i < 8; i++) {
            due(8, "set(" + i + ", most)", x.set(i, most[i]), first[i]);
            due(8, "more", x.set(i, most[i] + 1), BAD);
            due(8, "less than 0", x.set(i, -1), BAD);
            due(9, "law(" + i + ")", x.law(i), most[i]);
            due(8, "set(" + i + ", 0)", x.set(i, 0), most[i]);
        }
        due(8, "set(8, 0)", x.set(8, 0), BAD);
        due(8, "set(-1, 0)", x.set(-1, 0), BAD);
        due(9, "law(8)", x.law(8), BAD);
        due(9, "law(-1)", x.law(-1), BAD);
    }

    private static void posts() {
        TillPairs x = with(2);
        due(10, "nobody was there", x.post(9, 3, 1), -9);
        due(11, "who is there", x.postOf(9, 3), 1);
        due(10, "another one", x.post(9, 3, 0), 1);
        due(10, "nobody", x.post(9, 3, -1), 0);
        due(11, "nobody", x.postOf(9, 3), -9);
        due(10, "no such one", x.post(9, 3, 2), BAD);
        due(10, "p -2", x.post(9, 3, -2), BAD);
        due(10, "day 10", x.post(10, 3, 1), BAD);
        due(10, "post 4", x.post(0, 4, 1), BAD);
        due(10, "post -1", x.post(0, -1, 1), BAD);
        due(11, "day -1", x.postOf(-1, 0), BAD);
        due(11, "post 4", x.postOf(0, 4), BAD);
        due(11, "nothing was changed", x.postOf(9, 3), -9);
        due(10, "one at two posts", x.post(0, 0, 1), -9);
        due(10, "one at two posts", x.post(0, 1, 1), -9);
    }

    private static void surprise() {
        TillPairs x = new TillPairs();
        due(12, "not at first", x.surprise(0, false), 0);
        due(12, "new", x.surprise(0, true), 1);
        due(12, "not new", x.surprise(0, true), 0);
        due(12, "another day", x.surprise(9, true), 1);
        due(12, "no more", x.surprise(0, false), 1);
        due(12, "day 10", x.surprise(10, true), BAD);
        due(12, "day -1", x.surprise(-1, true), BAD);
    }

    private static void loss() {
        TillPairs x = new TillPairs();
        due(13, "0 at first", x.loss(9, 99), 0);
        due(13, "what it was", x.loss(9, 0), 99);
        due(13, "100", x.loss(9, 100), BAD);
        due(13, "-1", x.loss(9, -1), BAD);
        due(13, "day 10", x.loss(10, 0), BAD);
        due(13, "day -1", x.loss(-1, 0), BAD);
    }

    // ---- whether it pays

    private static void trustOn() {
        TillPairs x = with(3);
        x.trust(0, 1, 8);
        due(14, "at first", x.trustOn(1, 0, 0), 8);
        due(14, "fades", x.trustOn(0, 1, 3), 5);
        due(14, "0 at least", x.trustOn(0, 1, 9), 0);
        till(x, 0, 1, 0);
        till(x, 1, 0, 1);
        till(x, 2, 0, 1);
        due(14, "the day itself does not count", x.trustOn(0, 1, 0), 8);
        due(14, "grows", x.trustOn(0, 1, 1), 9);
        due(14, "9 at most", x.trustOn(0, 1, 3), 9);
        due(14, "then fades", x.trustOn(0, 1, 5), 7);
        due(14, "others", x.trustOn(0, 2, 5), 0);
        x.set(5, 3);
        due(14, "fades by 3", x.trustOn(0, 1, 5), 3);
        due(14, "the same", x.trustOn(1, 1, 5), BAD);
        due(14, "day 10", x.trustOn(0, 1, 10), BAD);
        due(14, "no such", x.trustOn(0, 3, 1), BAD);
    }

    private static void seen() {
        TillPairs x = with(6);
        due(15, "nobody sits", x.seen(0), NONE);
        x.post(0, 0, 0);
        due(15, "one alone", x.seen(0), NONE);
        x.post(0, 1, 0);
        due(15, "one at both", x.seen(0), NONE);
        x.post(0, 1, 1);
        due(15, "the eye", x.seen(0), 2);
        x.post(0, 3, 2);
        due(15, "the counter", x.seen(0), 6);
        x.post(0, 2, 3);
        due(15, "the reader", x.seen(0), 7);
        x.kin(2, 1, true);
        due(15, "the counter is kin", x.seen(0), 3);
        x.kin(0, 3, true);
        due(15, "the reader too", x.seen(0), 2);
        x.surprise(0, true);
        due(15, "a surprise", x.seen(0), 8);
        x.set(2, 12);
        due(15, "12 at most", x.seen(0), 12);
        due(15, "day 10", x.seen(10), BAD);
        due(15, "day -1", x.seen(-1), BAD);
    }

    private static void worth() {
        TillPairs x = with(3);
        due(16, "nobody sits", x.worth(5), NONE);
        x.trust(0, 1, 9);
        till(x, 5, 1, 0);
        x.post(5, 3, 2);
        due(16, "5 by 4 trust, seen 6", x.worth(5), 10000 + 12 * 5 * 4 - 30 * 6);
        x.set(0, 0);
        x.set(1, 99);
        x.surprise(5, true);
        due(16, "below 0", x.worth(5), 10000 - 99 * 12);
        due(16, "day 10", x.worth(10), BAD);
    }

    private static void pays() {
        TillPairs x = with(4);
        laws(x, 20, 0, 12, 0, 0);
        x.trust(0, 1, 9);
        x.trust(2, 3, 1);
        x.set(5, 0);
        till(x, 0, 0, 1);
        till(x, 9, 2, 3);
        till(x, 4, 0, 2);
        due(17, "two of three", x.pays(), 1 | 1 << 9);
        x.set(6, 10);
        due(17, "240 is not above 240", x.pays(), 1);
        x.set(6, 89);
        due(17, "2160 is above 2136", x.pays(), 1);
        x.set(6, 90);
        due(17, "2160 is not above 2160", x.pays(), 0);
    }

    private static void best() {
        TillPairs x = with(3);
        laws(x, 10, 30, 6, 0, 0);
        x.set(5, 0);
        due(18, "never together", x.best(0, 1, 0), 0);
        due(18, "0 is 0 by 1", x.best(0, 1, 1), 1);
        x.trust(0, 1, 4);
        till(x, 8, 0, 1);
        due(18, "half 40 less half 30", x.best(0, 1, 0), 5);
        due(18, "a whole", x.best(0, 1, 1), 1);
        till(x, 2, 1, 0);
        due(18, "on day 8 (50 - 30) / 2, on day 2 (40 + 10 - 30) / 2", x.best(1, 0, 0), 10);
        x.set(2, 1);
        // day 8: (11 * 50 - 30) / 12 = 520 / 12; day 2: (11 * (40 + 520 / 12) - 30) / 12 = 10640 / 144
        due(18, "above the line", x.best(0, 1, 0), 665);
        due(18, "below the line", x.best(0, 1, 1), 9);
        x.surprise(2, true);
        x.set(1, 99);
        // day 8: (11 * 50 - 99) / 12 = 451 / 12; day 2: (5 * (40 + 451 / 12) - 7 * 99) / 12 < 451 / 12
        due(18, "they leave day 2", x.best(0, 1, 0), 451);
        due(18, "they leave day 2", x.best(0, 1, 1), 12);
        x.set(2, 12);
        due(18, "it never pays", x.best(0, 1, 0), 0);
        TillPairs y = with(2);
        laws(y, 1, 1, 6, 0, 0);
        y.set(5, 0);
        y.trust(0, 1, 5);
        till(y, 9, 0, 1);
        due(18, "the last day: half 5 less half 1", y.best(0, 1, 0), 2);
        y.trust(0, 1, 9);
        till(y, 9, -1, -1);
        till(y, 0, 0, 1);
        due(18, "the first day", y.best(0, 1, 0), 4);
        y.set(2, 2);
        due(18, "88 by 12 without a common divisor", y.best(0, 1, 0), 22);
        due(18, "88 by 12 without a common divisor", y.best(0, 1, 1), 3);
        y.set(2, 4);
        due(18, "68 by 12", y.best(0, 1, 0), 17);
        due(18, "68 by 12", y.best(0, 1, 1), 3);
        y.set(2, 0);
        y.set(1, 99);
        due(18, "never seen", y.best(0, 1, 0), 9);
        y.set(2, 6);
        y.set(1, 6);
        due(18, "3 by 2", y.best(0, 1, 0), 3);
        due(18, "3 by 2", y.best(0, 1, 1), 2);
        due(18, "part 2", x.best(0, 1, 2), BAD);
        due(18, "part -1", x.best(0, 1, -1), BAD);
        due(18, "the same", x.best(0, 0, 0), BAD);
        due(18, "no such", x.best(0, 3, 0), BAD);
    }

    private static void enough() {
        TillPairs x = with(2);
        due(19, "it pays on no day", x.enough(), 0);
        laws(x, 20, 0, 0, 0, 0);
        x.trust(0, 1, 9);
        till(x, 0, 0, 1);
        due(19, "the most that there is", x.enough(), 90);
        x.set(6, 99);
        due(19, "whatever tell is", x.enough(), 90);
        due(19, "tell stays", x.law(6), 99);
        laws(x, 20, 1, 1, 0, 0);
        due(19, "2159", x.enough(), 90);
        x.set(1, 24);
        due(19, "2136", x.enough(), 89);
        x.set(1, 25);
        due(19, "2135", x.enough(), 89);
    }

    private static void needed() {
        TillPairs x = with(4);
        due(20, "no day", x.needed(), 0);
        laws(x, 10, 20, 0, 0, 0);
        x.set(5, 0);
        x.trust(0, 1, 1);
        till(x, 3, 0, 1);
        due(20, "120 less 6 by 20", x.needed(), 8);
        x.surprise(3, true);
        due(20, "as if it had none", x.needed(), 8);
        x.trust(2, 3, 1);
        till(x, 9, 2, 3);
        due(20, "two days", x.needed(), 8 | 512);
        x.set(1, 19);
        due(20, "it pays even with one", x.needed(), NONE);
        x.set(6, 1);
        due(20, "tell helps", x.needed(), 8 | 512);
        x.set(6, 5);
        due(20, "no day again", x.needed(), 0);
        TillPairs y = with(2);
        laws(y, 1, 2, 0, 0, 0);
        y.trust(0, 1, 1);
        till(y, 0, 0, 1);
        due(20, "the first day", y.needed(), 1);
        y.set(1, 1);
        due(20, "the first day, even with one", y.needed(), NONE);
    }

    private static void broken() {
        TillPairs x = with(5);
        laws(x, 10, 0, 0, 0, 0);
        due(21, "nobody there", x.broken(0), 0);
        x.trust(0, 1, 9);
        till(x, 0, 0, 1);
        till(x, 3, 1, 0);
        due(21, "it pays", x.broken(3), 5);
        x.set(7, 3);
        due(21, "in the gap", x.broken(3), 4);
        x.set(7, 2);
        due(21, "out of the gap", x.broken(3), 5);
        x.set(7, 9);
        due(21, "days behind do not count", x.broken(0), 5);
        x.kin(0, 1, true);
        due(21, "kin", x.broken(3), 3);
        x.post(3, 2, 4);
        x.post(3, 3, 4);
        due(21, "twice", x.broken(3), 2);
        x.away(4, 3, true);
        due(21, "away", x.broken(3), 1);
        x.post(3, 2, -1);
        x.post(3, 3, -1);
        x.kin(0, 1, false);
        x.set(7, 0);
        x.set(0, 0);
        due(21, "nothing", x.broken(3), 0);
        till(x, 5, 2, 2);
        due(21, "one at both", x.broken(5), 2);
        for (int post = 0; post < 4; post++) {
            x.post(6, post, 3);
            x.away(3, 6, true);
            due(21, "away at post " + post, x.broken(6), 1);
            x.away(3, 6, false);
            due(21, "alone at post " + post, x.broken(6), 0);
            for (int other = 0; other < post; other++) {
                x.post(6, other, 3);
                due(21, "at " + other + " and " + post, x.broken(6), 2);
                x.post(6, other, -1);
            }
            x.post(6, post, -1);
        }
        due(21, "day 10", x.broken(10), BAD);
        due(21, "day -1", x.broken(-1), BAD);
    }

    // ---- how to sit

    private static void mended() {
        TillPairs x = with(4);
        due(22, "the first of all", x.mended(0, 1), digits(0, 1, 2, 3));
        due(22, "all four", x.mended(0, 0), 4);
        x.kin(0, 1, true);
        x.post(0, 0, 1);
        x.post(0, 1, 0);
        x.post(0, 2, 3);
        x.post(0, 3, 2);
        due(22, "kin: one changes with one", x.mended(0, 0), 2);
        due(22, "the first of several", x.mended(0, 1), digits(1, 2, 3, 0));
        due(22, "the posts stay", x.postOf(0, 0), 1);
        x.kin(0, 1, false);
        due(22, "nothing to mend", x.mended(0, 0), 0);
        due(22, "nothing to mend", x.mended(0, 1), digits(1, 0, 3, 2));
        x.trust(0, 1, 9);
        due(22, "it pays", x.mended(0, 0), 2);
        x.set(1, 99);
        x.set(2, 12);
        due(22, "it pays no more", x.mended(0, 0), 0);
        x.away(3, 0, true);
        due(22, "too few", x.mended(0, 0), NONE);
        due(22, "too few", x.mended(0, 1), NONE);
        due(22, "day 10", x.mended(10, 0), BAD);
        due(22, "what 2", x.mended(0, 2), BAD);
        x.away(3, 0, false);
        x.post(0, 0, 1);
        x.post(0, 1, 2);
        x.post(0, 2, 0);
        x.post(0, 3, 0);
        due(22, "the first one at the book", x.mended(0, 1), digits(1, 2, 0, 3));
        TillPairs y = with(5);
        till(y, 3, 0, 1);
        till(y, 4, 1, 0);
        y.post(4, 2, 2);
        y.post(4, 3, 3);
        due(22, "by the gap", y.mended(4, 1), digits(1, 4, 2, 3));
        y.set(7, 0);
        due(22, "without one", y.mended(4, 0), 0);
    }

    private static void ahead() {
        TillPairs x = with(4);
        due(23, "six pairs", x.ahead(0, 1), 6);
        due(23, "not the same within the gap", x.ahead(0, 2), 30);
        due(23, "nor on the third", x.ahead(0, 3), 120);
        x.set(7, 1);
        due(23, "the third may be the first", x.ahead(0, 3), 6 * 5 * 5);
        x.set(7, 0);
        due(23, "no gap, but on the third day the same two would pay", x.ahead(7, 3), 216 - 6);
        x.set(7, 2);
        till(x, 0, 0, 1);
        due(23, "a day ahead counts", x.ahead(1, 1), 5);
        due(23, "it leaves the gap on day 3", x.ahead(2, 2), 5 * 5);
        x.post(2, 2, 3);
        due(23, "the book is busy", x.ahead(2, 1), 2);
        x.kin(0, 2, true);
        due(23, "kin", x.ahead(2, 1), 1);
        x.away(1, 2, true);
        due(23, "one is away", x.ahead(2, 1), 0);
        x.away(3, 2, true);
        x.away(1, 2, false);
        due(23, "the book is away", x.ahead(2, 1), 0);
        due(23, "the posts stay", x.postOf(0, 1), 1);
        TillPairs y = with(2);
        laws(y, 1, 2, 6, 0, 0);
        y.set(7, 0);
        y.trust(0, 1, 0);
        due(23, "trust 0, then 1 by sitting: 12 is not above 12", y.ahead(0, 2), 1);
        due(23, "trust 2 pays", y.ahead(0, 3), 0);
        y.set(6, 1);
        due(23, "telling helps", y.ahead(0, 3), 1);
        y.set(6, 0);
        y.set(1, 0);
        due(23, "without trust nothing is worth taking", y.ahead(0, 1), 1);
        due(23, "with trust it is", y.ahead(0, 2), 0);
        y.set(1, 2);
        due(23, "day 8, 3", y.ahead(8, 3), BAD);
        due(23, "day 9, 1", y.ahead(9, 1), 1);
        due(23, "day 10", y.ahead(10, 1), BAD);
        due(23, "n 0", y.ahead(0, 0), BAD);
        due(23, "n 4", y.ahead(0, 4), BAD);
        due(23, "n huge", y.ahead(5, Integer.MAX_VALUE), BAD);
        due(23, "nobody", new TillPairs().ahead(0, 1), 0);
        TillPairs z = with(8);
        z.set(7, 0);
        z.set(0, 0);
        due(23, "28 by 28 by 28", z.ahead(0, 3), 28 * 28 * 28);
    }

    private static void lot() {
        TillPairs x = with(3);
        due(24, "no day", x.lot(0, 1, 0), 1);
        due(24, "no day", x.lot(0, 1, 1), 1);
        till(x, 0, 0, 1);
        till(x, 1, 1, 0);
        till(x, 5, 1, 2);
        // two or three of three, each by 1 of 3: 3 * 2 + 1 of 27
        due(24, "two of three", x.lot(1, 0, 0), 7);
        due(24, "two of three", x.lot(1, 0, 1), 27);
        due(24, "one of three: 27 - 8", x.lot(2, 1, 0), 19);
        due(24, "none of three: surely", x.lot(0, 2, 1), 1);
        TillPairs y = with(8);
        for (int day = 0; day < 10; day++) {
            till(y, day, 6, 7);
        }
        due(24, "ten of ten", y.lot(6, 7, 0), 1);
        due(24, "28 to the 10", y.lot(6, 7, 1), 296196766695424L);
        TillPairs z = with(2);
        till(z, 3, 0, 1);
        due(24, "the only two", z.lot(0, 1, 1), 1);
        due(24, "part 2", z.lot(0, 1, 2), BAD);
        due(24, "the same", z.lot(0, 0, 0), BAD);
        due(24, "no such", z.lot(0, 2, 0), BAD);
    }

    private static void sat() {
        TillPairs x = with(3);
        till(x, 0, 0, 1);
        till(x, 9, 1, 0);
        till(x, 4, 1, 2);
        due(25, "two days", x.sat(0, 1), 513);
        due(25, "one day", x.sat(2, 1), 16);
        due(25, "none", x.sat(0, 2), 0);
        due(25, "the same", x.sat(0, 0), BAD);
        due(25, "no such", x.sat(0, 3), BAD);
    }

    private static void suspects() {
        TillPairs x = with(1);
        due(26, "no two", x.suspects(0), NONE);
        due(26, "what 2", x.suspects(2), BAD);
        x.person();
        due(26, "two alone", x.suspects(0), 1);
        x.person();
        due(26, "the first two", x.suspects(0), 1);
        due(26, "no loss", x.suspects(1), 0);
        till(x, 0, 2, 1);
        x.loss(0, 5);
        due(26, "the lesser one first", x.suspects(0), 8 + 2);
        till(x, 1, 0, 2);
        x.loss(1, 3);
        till(x, 8, 2, 0);
        x.loss(8, 2);
        due(26, "as much: the first", x.suspects(0), 2);
        x.loss(0, 6);
        due(26, "the most", x.suspects(1), 6);
        till(x, 9, 2, 1);
        x.loss(9, 90);
        due(26, "the last day too", x.suspects(1), 96);
        x.loss(9, 0);
        x.loss(5, 99);
        due(26, "a loss on a day when nobody sits", x.suspects(1), 6);
        due(26, "what -1", x.suspects(-1), BAD);
    }

    // ---- plans

    private static void plan() {
        TillPairs x = new TillPairs();
        due(27, "kind 0", x.plan(0, 0), BAD);
        due(27, "kind 6", x.plan(6, 0), BAD);
        due(27, "a -1", x.plan(1, -1), BAD);
        due(27, "a 4096", x.plan(1, 4096), BAD);
        due(27, "first", x.plan(1, 0), 0);
        due(27, "second", x.plan(5, 4095), 1);
        due(27, "third", x.plan(1, 0), 2);
        due(27, "fourth", x.plan(4, 7), 3);
        due(27, "fifth", x.plan(1, 0), FULL);
        due(27, "fifth, kind 6", x.plan(6, 0), BAD);
        due(28, "kind", x.planOf(3, 0), 4);
        due(28, "a", x.planOf(1, 1), 4095);
        due(28, "what 2", x.planOf(1, 2), BAD);
        due(28, "no such plan", x.planOf(4, 0), BAD);
        due(28, "no such plan", x.planOf(-1, 0), BAD);
        due(28, "no such plan yet", new TillPairs().planOf(0, 0), BAD);
    }

    private static void fillByTurn() {
        TillPairs x = with(4);
        x.plan(1, 0);
        due(29, "the first two", x.fill(0, 0), digits(0, 1, 2, 3));
        due(29, "never is longest", x.fill(0, 1), digits(0, 2, 1, 3));
        due(11, "who is there now", x.postOf(1, 1), 2);
        till(x, 2, 0, 3);
        till(x, 3, 1, 2);
        till(x, 4, 1, 3);
        till(x, 5, 2, 3);
        due(29, "the one longest ago", x.fill(0, 6), digits(0, 1, 2, 3));
        due(29, "days behind count nothing", x.fill(0, 1), digits(0, 2, 1, 3));
        for (int p = 0; p < 4; p++) {
            for (int q = 0; q < p; q++) {
                x.kin(p, q, true);
            }
        }
        due(29, "all are kin", x.fill(0, 2), digits(0, 3, 1, 2));
        x.kin(2, 3, false);
        due(29, "not the kin", x.fill(0, 2), digits(2, 3, 0, 1));
        x.away(0, 2, true);
        due(29, "three are left", x.fill(0, 2), NONE);
        due(29, "nothing is changed", x.postOf(2, 0), 2);
        due(29, "day 10", x.fill(0, 10), BAD);
        due(29, "no such plan", x.fill(1, 0), BAD);
        due(29, "no such plan", x.fill(-1, 0), BAD);
    }

    private static void fillByRest() {
        TillPairs x = new TillPairs();
        x.plan(4, 13);
        due(29, "no people", x.fill(0, 0), NONE);
        for (int i = 0; i < 5; i++) {
            x.person();
        }
        due(29, "13 + 9 modulo 5 rests", x.fill(0, 9), digits(0, 1, 3, 4));
        due(29, "13 + 2 modulo 5 rests", x.fill(0, 2), digits(1, 2, 3, 4));
        x.away(4, 2, true);
        due(29, "one more is away", x.fill(0, 2), NONE);
        x.away(4, 2, false);
        x.away(0, 2, true);
        due(29, "the one at rest is away", x.fill(0, 2), digits(1, 2, 3, 4));
    }

    private static int[] drawn(int z, int[] present) {
        int[] left = present.clone();
        int[] drawn = new int[5];
        int many = left.length;
        for (int post = 0; post < 4; post++) {
            z = z * 1103515245 + 12345;
            int place = (z >>> 16) % many;
            drawn[post] = left[place];
            for (int i = place; i < many - 1; i++) {
                left[i] = left[i + 1];
            }
            many--;
        }
        drawn[4] = z;
        return drawn;
    }

    private static void fillByDraw() {
        TillPairs x = with(7);
        x.plan(2, 0);
        x.away(1, 3, true);
        int[] due = drawn(1, new int[] {0, 2, 3, 4, 5, 6});
        due(29, "a draw", x.fill(0, 3), digits(due[0], due[1], due[2], due[3]));
        due(30, "z is four steps on", x.seed(due[4]), due[4]);
        int[] next = drawn(due[4], new int[] {0, 1, 2, 3, 4, 5, 6});
        due(29, "the next draw", x.fill(0, 4), digits(next[0], next[1], next[2], next[3]));
        for (int p = 2; p < 6; p++) {
            x.away(p, 4, true);
        }
        due(29, "too few", x.fill(0, 4), NONE);
        due(30, "z stays then", x.seed(1), next[4]);
    }

    private static void fillByCount() {
        int[] all = {0, 1, 2, 3, 4, 5};
        for (int z = 1; z < 40; z++) {
            TillPairs x = with(6);
            x.plan(3, 0);
            int[] due = drawn(z, all);
            int least = 0;
            while (least == due[0] || least == due[1] || least == due[2]) {
                least++;
            }
            x.seed(z);
            due(29, "the least that is left", x.fill(0, 0), digits(due[0], due[1], due[2], least));
            due(30, "z all the same", x.seed(z), due[4]);
            for (int p = 0; p < 6; p++) {
                x.kin(p, due[1], true);
            }
            due(29, "none but kin: as drawn", x.fill(0, 0), digits(due[0], due[1], due[2], due[3]));
            for (int p = 0; p < 6; p++) {
                x.kin(p, due[1], false);
            }
        }
    }

    private static void fillByCountNotKin() {
        for (int z = 1; z < 40; z++) {
            TillPairs x = with(5);
            x.plan(3, 0);
            int[] due = drawn(z, new int[] {0, 1, 2, 3, 4});
            int[] left = new int[2];
            int many = 0;
            for (int p = 0; p < 5; p++) {
                if (p != due[0] && p != due[1] && p != due[2]) {
                    left[many] = p;
                    many++;
                }
            }
            for (int post = 0; post < 2; post++) {
                x.kin(due[post], left[0], true);
                x.seed(z);
                due(29, "not the kin of post " + post, x.fill(0, 0), digits(due[0], due[1], due[2], left[1]));
                x.kin(due[post], left[0], false);
            }
            x.kin(due[2], left[0], true);
            x.seed(z);
            due(29, "kin at the book is no matter", x.fill(0, 0), digits(due[0], due[1], due[2], left[0]));
            x.kin(due[2], left[0], false);
        }
    }

    private static void fillAsTold() {
        TillPairs x = with(4);
        x.plan(5, digits(3, 3, 0, 1));
        x.plan(5, digits(0, 1, 2, 4));
        due(29, "as told", x.fill(0, 7), digits(3, 3, 0, 1));
        due(29, "one that there isn't", x.fill(1, 7), NONE);
        x.person();
        due(29, "now there is", x.fill(1, 7), digits(0, 1, 2, 4));
        x.away(0, 7, true);
        due(29, "away or not", x.fill(0, 7), digits(3, 3, 0, 1));
        TillPairs y = with(1);
        y.plan(5, 0);
        due(29, "one is enough", y.fill(0, 0), 0);
    }

    private static void seed() {
        TillPairs x = new TillPairs();
        due(30, "1 at first", x.seed(Integer.MIN_VALUE), 1);
        due(30, "what it was", x.seed(-1), Integer.MIN_VALUE);
        due(30, "what it was", x.seed(0), -1);
    }

    // ---- rows

    private static void rows() {
        TillPairs x = with(3);
        due(33, "none yet", x.alterRow(0, 0, 1), -9);
        due(34, "none yet", x.judge(), 0);
        till(x, 0, 1, 0);
        x.post(0, 3, 1);
        x.post(9, 0, 2);
        x.post(9, 1, 2);
        due(31, "ten", x.prove(), 10);
        due(32, "who sit", x.row(0, 0), 1);
        due(32, "seen", x.row(0, 1), 6);
        due(32, "broken", x.row(0, 2), 2);
        due(32, "nobody sits", x.row(9, 0), -1);
        due(32, "nobody is seen", x.row(9, 1), 0);
        due(32, "yet it is broken", x.row(9, 2), 2);
        due(32, "i 10", x.row(10, 0), -9);
        due(32, "i -1", x.row(-1, 0), -9);
        due(32, "what 3", x.row(0, 3), -9);
        due(32, "what -1", x.row(0, -1), -9);
        due(33, "i 10", x.alterRow(10, 0, 1), -9);
        due(33, "what 3", x.alterRow(0, 3, 1), -9);
        due(34, "all is right", x.judge(), 0);
        for (int what = 0; what < 3; what++) {
            int was = x.row(4, what);
            due(33, "what it was", x.alterRow(4, what, 50), was);
            due(32, "altered", x.row(4, what), 50);
            due(34, "row 4 isn't", x.judge(), 5);
            due(33, "back", x.alterRow(4, what, was), 50);
            due(34, "all is right again", x.judge(), 0);
        }
        x.alterRow(9, 1, 7);
        due(34, "the last row", x.judge(), 10);
        x.away(2, 9, true);
        x.prove();
        due(32, "proved again", x.row(9, 2), 1);
        x.post(0, 3, -1);
        due(34, "the house is another now", x.judge(), 1);
    }

    // ---- the host

    private static void sheets() {
        TillPairs x = new TillPairs();
        due(35, "sheet 4", x.sheet(4, 0, 1), BAD);
        due(35, "sheet -1", x.sheet(-1, 0, 1), BAD);
        due(35, "sort 4", x.sheet(0, 4, 1), BAD);
        due(35, "sort -2", x.sheet(0, -2, 1), BAD);
        due(35, "n 41", x.sheet(0, 0, 41), BAD);
        due(35, "n -1", x.sheet(0, 0, -1), -14);
        due(35, "sheet 4, n -1", x.sheet(4, 0, -1), BAD);
        due(35, "missing, n 99", x.sheet(0, -1, 99), 1);
        due(35, "missing, n -1", x.sheet(0, -1, -1), 1);
        due(36, "a missing one", x.put(0, 0, 1), -11);
        due(36, "sheet 4", x.put(4, 0, 1), BAD);
        due(37, "a missing one", x.item(0, 0, 0), -11);
        due(35, "none", x.sheet(0, 0, 0), 1);
        due(36, "outside", x.put(0, 0, 1), -12);
        int[] narrowed = {-1, 2047, 526335, 526335};
        int[] narrow = {-128, -32768, 98304, 98304};
        for (int sort = 0; sort < 4; sort++) {
            x.sheet(1, sort, 40);
            due(37, "0 at first", x.item(1, sort, 39), 0);
            due(36, "put", x.put(1, 39, 526335), 1);
            due(37, "narrowed", x.item(1, sort, 39), narrowed[sort]);
            x.put(1, 0, sort == 0 ? 128 : 98304);
            due(37, "below 0", x.item(1, sort, 0), narrow[sort]);
            due(36, "outside", x.put(1, 40, 1), -12);
            due(36, "outside", x.put(1, -1, 1), -12);
            due(37, "outside", x.item(1, sort, 40), -12);
            due(37, "outside", x.item(1, sort, -1), -12);
            due(37, "another sort", x.item(1, (sort + 1) % 4, 39), -13);
            due(37, "another sort, outside", x.item(1, (sort + 1) % 4, 40), -13);
        }
        due(37, "sort 4", x.item(1, 4, 0), BAD);
        due(37, "sort -1", x.item(1, -1, 0), BAD);
        due(37, "sheet -1", x.item(-1, 0, 0), BAD);
        x.put(1, 3, -12);
        due(37, "an item as low as a refusal", x.item(1, 3, 3), -12);
        due(35, "refused", x.sheet(1, 0, -5), -14);
        due(35, "nothing was changed", x.item(1, 3, 3), -12);
        x.sheet(1, 3, 40);
        due(35, "all 0 again", x.item(1, 3, 3), 0);
    }

    private static void shelves() {
        TillPairs x = new TillPairs();
        x.keep();
        for (int kind = 1; kind <= 4; kind++) {
            x.plan(kind, 0);
        }
        due(38, "shelf 4", x.shelf(4, 2, 0), BAD);
        due(38, "what 3", x.shelf(0, 3, 0), BAD);
        due(38, "what -1", x.shelf(0, -1, 0), BAD);
        due(38, "plan 4", x.shelf(0, 0, 4), BAD);
        due(38, "sheet 4", x.shelf(0, 1, 4), BAD);
        boolean[][] under = {
            {true, true, false, false, false, false},
            {true, false, true, false, false, false},
            {true, false, true, true, false, false},
            {true, true, false, false, true, false},
        };
        for (int n = 0; n < 4; n++) {
            due(38, "a plan", x.shelf(0, 0, n), 1);
            for (int as = 0; as < 6; as++) {
                due(39, "plan " + n + " as " + as, x.taken(0, as), under[n][as] ? n : -13);
            }
            due(39, "a plan as a row", x.taken(0, 10), -13);
        }
        due(39, "as 6", x.taken(0, 6), BAD);
        due(39, "as 9", x.taken(0, 9), BAD);
        due(39, "as 14", x.taken(0, 14), BAD);
        due(39, "as -1", x.taken(0, -1), BAD);
        due(39, "shelf 4", x.taken(4, 0), BAD);
        due(39, "nothing", x.taken(1, 0), -11);
        due(38, "a missing row", x.shelf(0, 1, 2), 1);
        due(39, "is nothing", x.taken(0, 12), -11);
        x.sheet(2, 2, 7);
        due(39, "and stays nothing", x.taken(0, 12), -11);
        due(38, "a row", x.shelf(0, 1, 2), 1);
        due(39, "its items", x.taken(0, 12), 7);
        due(39, "another sort", x.taken(0, 11), -13);
        due(39, "as a plan", x.taken(0, 0), -13);
        x.sheet(2, 1, 9);
        due(39, "the row that was held", x.taken(0, 12), 7);
        due(38, "nothing", x.shelf(0, 2, 99), 1);
        due(39, "nothing", x.taken(0, 12), -11);
        x.shelf(3, 0, 3);
        x.again();
        due(39, "no such plan any more", x.taken(3, 0), -11);
        due(40, "no such plan any more", x.act(3, 0, 1), 0);
        x.plan(5, 0);
        x.plan(5, 0);
        x.plan(5, 0);
        x.plan(5, 0);
        due(39, "by its number", x.taken(3, 5), 3);
    }

    private static void act(TillPairs x, int shelf, int act, int v, int answer, int... bodies) {
        String what = "act(" + shelf + ", " + act + ", " + v + ")";
        due(40, what, x.act(shelf, act, v), answer);
        due(43, "bodies of " + what, x.many(5), bodies.length);
        for (int i = 0; i < bodies.length; i++) {
            due(41, what + ", body " + i, x.trace(i), bodies[i]);
        }
        due(41, what + ", behind the last", x.trace(bodies.length), NONE);
        due(41, what + ", ahead of the first", x.trace(-1), NONE);
    }

    private static void acts() {
        TillPairs x = new TillPairs();
        x.plan(1, 4);
        x.plan(2, 3);
        x.plan(3, 7);
        x.plan(4, 5);
        for (int i = 0; i < 4; i++) {
            x.shelf(i, 0, i);
        }
        act(x, 0, 0, 9, 9, 10);
        act(x, 0, 1, 9, 14, 20, 11, 10);
        act(x, 0, 2, 9, 2, 12);
        act(x, 0, 2, -9, -2, 12);
        act(x, 0, 3, 9, 14 ^ 4, 13, 20, 11, 10);
        act(x, 1, 0, 9, 30, 30, 10);
        act(x, 1, 1, 9, 60, 11, 30, 10);
        act(x, 1, 2, 9, 4, 12);
        act(x, 1, 3, 9, (60 ^ 3) + 0, 31, 13, 11, 30, 10, 12);
        act(x, 2, 0, 9, -33, 40, 30, 10);
        act(x, 2, 1, 9, -66 - 12, 41, 11, 40, 30, 10, 40, 30, 10);
        act(x, 2, 2, 11, 2, 12);
        act(x, 2, 3, 9, (-78 ^ 7) + 0, 31, 13, 41, 11, 40, 30, 10, 40, 30, 10, 12);
        act(x, 3, 0, 9, 9, 51, 10);
        act(x, 3, 1, 9, 13, 20, 11, 51, 10);
        act(x, 3, 2, 9, 5 ^ 1, 50, 12);
        act(x, 3, 3, 9, 13 ^ 5, 13, 20, 11, 51, 10);
        act(x, 0, 1, Integer.MAX_VALUE, -6, 20, 11, 10);
        act(x, 0, 4, 1, 0);
        act(x, 0, 0, 1, 1, 10);
        act(x, 4, 0, 1, 0);
        act(x, 0, 0, 1, 1, 10);
        act(x, -1, 0, 1, 0);
        act(x, 0, 0, 1, 1, 10);
        act(x, 0, -1, 1, 0);
        act(x, 0, 0, 1, 1, 10);
        x.shelf(1, 2, 0);
        act(x, 1, 0, 1, 0);
        act(x, 0, 0, 1, 1, 10);
        x.sheet(0, 0, 3);
        x.shelf(1, 1, 0);
        act(x, 1, 0, 1, 0);
        TillPairs y = new TillPairs();
        y.plan(5, 2);
        y.plan(2, 2);
        y.shelf(1, 0, 1);
        act(y, 1, 3, 3, (24 ^ 2) + 1, 31, 13, 11, 30, 10, 12);
        y.shelf(0, 0, 0);
        act(y, 0, 0, 9, 9, 10);
        act(y, 0, 2, 9, 4 + 2, 61, 12, 10);
        act(y, 0, 3, 9, (18 ^ 2) * 2, 60, 13, 11, 10);
    }

    private static void actsParted() {
        TillPairs x = new TillPairs();
        x.plan(5, 0);
        x.plan(2, 1);
        x.plan(4, 1);
        x.shelf(0, 0, 0);
        x.shelf(1, 0, 1);
        act(x, 0, 2, 5, -15, 61, 12);
        act(x, 1, 3, 5, -15, 31, 13, 11, 30, 10, 12);
        act(x, 0, 0, 5, 5, 10);
        x.shelf(2, 0, 2);
        act(x, 2, 2, Integer.MIN_VALUE - 2, Integer.MIN_VALUE ^ 1, 50, 12);
    }

    private static void days() {
        TillPairs x = with(3);
        due(42, "missing", x.days(0, 0), -11);
        x.sheet(0, 3, 3);
        due(42, "longs", x.days(0, 0), -13);
        x.sheet(0, 2, 3);
        x.put(0, 0, 2);
        x.put(0, 1, 3);
        x.put(0, 2, -7);
        for (int day = 0; day < 4; day++) {
            x.post(day, 3, 1);
        }
        due(42, "three days", x.days(3, 0), 3);
        due(42, "who is told", x.postOf(0, 3), 2);
        due(42, "no such one", x.postOf(1, 3), -9);
        due(42, "no such one", x.postOf(2, 3), -9);
        due(42, "no item", x.postOf(3, 3), 1);
        x.sheet(0, 2, 40);
        due(42, "ten days at most", x.days(0, 0), 10);
        due(42, "the last day", x.postOf(9, 0), 0);
        x.sheet(0, 2, 0);
        due(42, "no days", x.days(0, 0), 0);
        due(42, "post 4", x.days(4, 0), BAD);
        due(42, "post -1", x.days(-1, 0), BAD);
        due(42, "sheet 4", x.days(0, 4), BAD);
        due(42, "sheet -1", x.days(0, -1), BAD);
        due(42, "post 4, missing", x.days(4, 1), BAD);
    }

    private static void many() {
        TillPairs x = with(3);
        x.plan(1, 1);
        till(x, 0, 0, 1);
        till(x, 1, 2, 2);
        till(x, 9, 2, 1);
        x.prove();
        x.feed(0, 3);
        x.shelf(0, 0, 0);
        x.act(0, 1, 0);
        int[] due = {3, 1, 2, 10, 3, 3};
        for (int what = 0; what < 6; what++) {
            due(43, "many(" + what + ")", x.many(what), due[what]);
        }
        due(43, "many(6)", x.many(6), BAD);
        due(43, "many(-1)", x.many(-1), BAD);
    }

    // ---- kept

    private static void keepAndAgain() {
        TillPairs x = with(3);
        x.kin(0, 1, true);
        x.trust(0, 2, 5);
        x.away(1, 1, true);
        x.set(0, 9);
        till(x, 2, 0, 2);
        x.post(9, 3, 1);
        x.surprise(2, true);
        x.loss(2, 8);
        x.loss(9, 7);
        x.plan(2, 6);
        x.seed(123);
        due(44, "keep", x.keep(), 1);
        x.person();
        x.kin(0, 1, false);
        x.trust(0, 2, 1);
        x.away(1, 1, false);
        x.set(0, 3);
        x.post(2, 0, -1);
        x.post(9, 3, 2);
        x.surprise(2, false);
        x.loss(2, 0);
        x.loss(9, 0);
        x.plan(3, 7);
        x.prove();
        x.feed(0, 2);
        x.sheet(1, 0, 1);
        x.shelf(1, 0, 0);
        x.act(1, 0, 1);
        for (int times = 0; times < 2; times++) {
            x.seed(9);
            due(45, "again", x.again(), 3);
            due(45, "people", x.many(0), 3);
            due(45, "kin", x.kin(0, 1, true), 0);
            due(45, "trust", x.trust(0, 2, 5), 5);
            due(45, "away", x.away(1, 1, true), 0);
            due(45, "take", x.law(0), 9);
            due(45, "posts", x.postOf(2, 0), 0);
            due(45, "surprise", x.surprise(2, true), 0);
            due(45, "loss", x.loss(2, 8), 8);
            due(45, "posts of the last day", x.postOf(9, 3), 1);
            due(45, "loss of the last day", x.loss(9, 7), 7);
            due(45, "plans", x.many(1), 1);
            due(45, "a plan", x.planOf(0, 1), 6);
            due(45, "z", x.seed(123), 123);
            due(45, "the tape stays", x.many(4), 2);
            due(45, "rows stay", x.many(3), 10);
            due(45, "the trace stays", x.many(5), 2);
            due(45, "sheets stay", x.item(1, 0, 0), 0);
            due(45, "shelves stay", x.taken(1, 2), 0);
            due(34, "rows of another house", x.judge(), 3);
            x.post(2, 0, -1);
            x.plan(1, 1);
            x.person();
        }
        due(44, "the latest", x.keep(), 1);
        x.person();
        due(45, "the latest", x.again(), 4);
        due(45, "its plans", x.many(1), 2);
    }
}
