/** The boundaries of THE HOUSE: promises 1 to 13 and what "Terms" says under 1. */
public final class HouseEdges extends Checks {
    private static final String EIGHT = "person;person;person;person;person;person;person;person;";

    public static void main(String[] args) {
        newIsEmpty();
        newHasNothing();
        newOnesAreApart();
        lastCall();
        feedSizes();
        feedBytes();
        feedFull();
        feedAfterHouse();
        houseOfNothing();
        houseOfAllBytes();
        housePeople();
        housePeopleToldAhead();
        houseLaws();
        houseNumbers();
        houseTrust();
        houseSecondUnlikeFirst();
        houseAway();
        houseBlanks();
        houseTouching();
        houseEnds();
        houseOtherBytes();
        houseNames();
        houseFirstFault();
        houseByItAlone();
        houseAfterFault();
        houseKeepsOthers();
        personNumbers();
        personIsNew();
        kinEdges();
        trustEdges();
        awayEdges();
        lawEdges();
        postEdges();
        surpriseEdges();
        lossEdges();
        end();
    }

    // ---- promise 1

    private static void newIsEmpty() {
        TillPairs x = new TillPairs();
        for (int what = 0; what < 6; what++) {
            due(1, "many(" + what + ") of a new one", x.many(what), 0);
        }
        due(1, "nothing is kept", x.again(), NONE);
        due(1, "no person 0 for a post", x.post(0, 0, 0), BAD);
        due(1, "no person 0 to be away", x.away(0, 0, true), BAD);
        due(1, "no people to be kin", x.kin(0, 1, true), BAD);
        due(1, "no people to trust", x.trust(0, 1, 0), BAD);
        due(1, "no people to have sat", x.sat(0, 1), BAD);
        due(1, "no plan 0", x.planOf(0, 0), BAD);
        due(1, "no plan 0 to fill by", x.fill(0, 0), BAD);
        due(1, "no plan 0 for a shelf", x.shelf(0, 0, 0), BAD);
        due(1, "no two people", x.suspects(0), NONE);
        due(1, "no way to sit", x.mended(0, 0), NONE);
        due(1, "no rows ahead", x.ahead(0, 1), 0);
        due(1, "z", x.seed(1), 1);
        due(1, "BAD", TillPairs.BAD, -1);
        due(1, "FULL", TillPairs.FULL, -2);
        due(1, "NONE", TillPairs.NONE, -3);
        due(1, "STATE", TillPairs.STATE, -4);
    }

    private static void newHasNothing() {
        TillPairs x = new TillPairs();
        for (int day = 0; day < 10; day++) {
            for (int post = 0; post < 4; post++) {
                due(1, "postOf(" + day + ", " + post + ")", x.postOf(day, post), NOBODY);
            }
            due(1, "no surprise on " + day, x.surprise(day, false), 0);
            due(1, "no loss on " + day, x.loss(day, 0), 0);
            due(1, "nobody sits on " + day, x.seen(day), NONE);
            due(1, "nothing is broken on " + day, x.broken(day), 0);
            due(1, "no row " + day, x.row(day, 0), -9);
        }
        for (int i = 0; i < 4; i++) {
            due(1, "sheet " + i + " is missing", x.item(i, 0, 0), NOTHING);
            due(1, "shelf " + i + " holds nothing", x.taken(i, 0), NOTHING);
            due(1, "an act of shelf " + i, x.act(i, 0, 7), 0);
        }
        for (int law = 0; law < 8; law++) {
            due(1, "law(" + law + ")", x.law(law), LAWS_AT_FIRST[law]);
        }
        due(1, "no trace", x.trace(0), NONE);
        due(1, "all rows are right", x.judge(), 0);
        due(1, "it pays on no day", x.pays(), 0);
        due(1, "enough", x.enough(), 0);
        due(1, "needed", x.needed(), 0);
    }

    private static void newOnesAreApart() {
        TillPairs x = with(8);
        x.kin(0, 1, true);
        x.trust(0, 1, 9);
        x.away(0, 0, true);
        x.set(TAKE, 20);
        x.post(0, 0, 0);
        x.surprise(0, true);
        x.loss(0, 9);
        x.plan(2, 0);
        x.seed(5);
        x.prove();
        x.sheet(0, 0, 1);
        x.shelf(0, 0, 0);
        x.act(0, 0, 0);
        x.feed(32, 1);
        x.keep();
        newIsEmpty();
        newHasNothing();
        TillPairs y = with(2);
        due(1, "kin of another object", y.kin(0, 1, false), 0);
        due(1, "trust of another object", y.trust(0, 1, 0), 0);
        due(1, "away in another object", y.away(0, 0, false), 0);
    }

    private static void lastCall() {
        TillPairs x = new TillPairs();
        for (int call = 1; call < 512; call++) {
            x.feed(0x20, 1);
        }
        due(2, "the 512th call", x.feed(0, 1), FULL);
    }

    // ---- promise 2

    private static void feedSizes() {
        TillPairs x = new TillPairs();
        for (int n : new int[] {0, 9, -1, LEAST, MOST}) {
            due(2, "feed of " + n, x.feed(-1L, n), BAD);
            due(2, "bytes after it", x.many(4), 0);
        }
        int sum = 0;
        for (int n = 1; n <= 8; n++) {
            sum += n;
            due(2, "feed of " + n, x.feed(0x2020202020202020L, n), sum);
            due(2, "bytes after it", x.many(4), sum);
        }
        due(2, "all of them are blanks", x.house(), 0);
    }

    /** Whatever stands above the n lowest bytes is not taken; the lowest one is the first. */
    private static void feedBytes() {
        String text = "take 12;pain 98;";
        for (int n = 1; n <= 8; n++) {
            TillPairs x = new TillPairs();
            for (int i = 0; i < text.length(); i += n) {
                int many = Math.min(n, text.length() - i);
                long eight = -1L;
                for (int j = many - 1; j >= 0; j--) {
                    eight = eight << 8 | text.charAt(i + j);
                }
                due(2, "bytes by " + n, x.feed(eight, many), i + many);
            }
            due(2, "a text by " + n, x.house(), 0);
            due(2, "take by " + n, x.law(TAKE), 12);
            due(2, "pain by " + n, x.law(PAIN), 98);
        }
        TillPairs x = new TillPairs();
        x.feed(0xFF20202020202020L, 8);
        due(2, "the eighth byte, with the highest bit", x.house(), -107);
        x.feed(0x8020202020202020L, 7);
        due(2, "the eighth byte left out", x.house(), 0);
    }

    private static void feedFull() {
        for (int length = 185; length <= 200; length++) {
            for (int n = 1; n <= 8; n++) {
                TillPairs x = new TillPairs();
                feedText(x, " ".repeat(length));
                boolean fits = length + n <= 200;
                due(2, n + " more after " + length, x.feed(0x2020202020202020L, n), fits ? length + n : FULL);
                due(2, "bytes then", x.many(4), fits ? length + n : length);
                due(2, "a size of 0 after that", x.feed(0, 0), BAD);
                due(2, "a size of 9 after that", x.feed(0, 9), BAD);
                due(2, "bytes then", x.many(4), fits ? length + n : length);
                due(2, "no other byte came", x.house(), 0);
            }
        }
        TillPairs x = new TillPairs();
        feedText(x, " ".repeat(192));
        due(2, "eight that fill it", x.feed(0x3b3720656b617420L, 8), 200);
        due(2, "one more", x.feed(0x21, 1), FULL);
        due(2, "the last eight are read, the one more isn't", x.house(), 0);
        due(2, "take", x.law(TAKE), 7);
    }

    private static void feedAfterHouse() {
        TillPairs x = new TillPairs();
        feedText(x, " ".repeat(200));
        x.house();
        due(2, "the tape is used up", x.feed(0x21, 1), 1);
        due(2, "a fault", x.house(), -100);
        due(2, "used up by a fault too", x.feed(0x20, 1), 1);
        feedText(x, " ".repeat(199));
        due(2, "full again", x.feed(0x20, 1), FULL);
        due(2, "bytes", x.many(4), 200);
    }

    // ---- promise 3

    private static void fault(String text, int place) {
        TillPairs x = new TillPairs();
        due(3, "fault of '" + text + "'", told(x, text), -100 - place);
        due(3, "the tape after '" + text + "'", x.many(4), 0);
        due(3, "people after '" + text + "'", x.many(0), 0);
    }

    private static TillPairs right(String text, int people) {
        TillPairs x = new TillPairs();
        due(3, "'" + text + "'", told(x, text), people);
        due(3, "people of '" + text + "'", x.many(0), people);
        due(3, "the tape after '" + text + "'", x.many(4), 0);
        return x;
    }

    private static void houseOfNothing() {
        right("", 0);
        right(" ", 0);
        right(" ".repeat(200), 0);
        TillPairs x = with(8);
        due(3, "a house of nothing", x.house(), 0);
        due(3, "nobody is left", x.post(0, 0, 0), BAD);
    }

    private static void houseOfAllBytes() {
        String laws = "take 20;pain 99;eye 12;counter 12;reader 12;fade 3;tell 99;gap 9;";
        String text = EIGHT + "kin 6 7;trust 6 7 9;away 7 on 0 and 9;" + laws;
        right(text + " ".repeat(200 - text.length()), 8);
        TillPairs x = right(" ".repeat(200 - text.length()) + text, 8);
        due(3, "the gap in the last bytes", x.law(GAP), 9);
        String start = " ".repeat(200 - "person;".length());
        right(start + "person;", 1);
        fault(start + "person", 199);
        fault(start + " person", 200);
        fault(start + "person!", 199);
        fault(start + " perso;", 194);
        fault(" ".repeat(199) + "!", 199);
        fault(" ".repeat(195) + "gap 9", 200);
        fault(" ".repeat(195) + "gap 1", 200);
        fault(" ".repeat(194) + "gap 10", 198);
        fault(" ".repeat(196) + "gap ", 200);
        fault(" ".repeat(197) + "gap", 200);
        fault(" ".repeat(198) + "ga", 198);
    }

    private static void housePeople() {
        right("person;", 1);
        right(EIGHT, 8);
        fault(EIGHT + "person;", 56);
        fault(EIGHT + "person", 56);
        fault(EIGHT + "   person;", 59);
        fault(EIGHT + "take 5;person;person", 63);
        right(EIGHT + "take 5;", 8);
    }

    private static void housePeopleToldAhead() {
        fault("kin 0 1;person;person;", 4);
        fault("person;kin 0 1;person;", 13);
        fault("trust 0 1 1;person;person;", 6);
        fault("person;trust 0 1 1;person;", 15);
        fault("away 0 on 0;person;", 5);
        fault("person;away 1 on 0;person;", 12);
        right("person;person;kin 0 1;person;kin 2 0;away 2 on 0;trust 1 2 1;", 3);
        TillPairs x = with(8);
        due(3, "people of the old house do not count", told(x, "kin 0 1;"), -104);
        for (int people = 2; people <= 8; people++) {
            String text = "person;".repeat(people);
            int at = text.length();
            right(text + "kin " + (people - 1) + " 0;", people);
            right(text + "kin 0 " + (people - 1) + ";", people);
            fault(text + "kin " + people + " 0;", at + 4);
            fault(text + "kin 0 " + people + ";", at + 6);
            right(text + "trust " + (people - 1) + " 0 1;", people);
            right(text + "trust 0 " + (people - 1) + " 1;", people);
            fault(text + "trust " + people + " 0 1;", at + 6);
            fault(text + "trust 0 " + people + " 1;", at + 8);
            right(text + "away " + (people - 1) + " on 0;", people);
            fault(text + "away " + people + " on 0;", at + 5);
        }
    }

    private static void houseLaws() {
        for (int law = 0; law < 8; law++) {
            String name = LAW_NAMES[law] + " ";
            int most = MOST_OF_LAW[law];
            int at = name.length();
            due(3, name + most, right(name + most + ";", 0).law(law), most);
            due(3, name + "0", right(name + "0;", 0).law(law), 0);
            due(3, name + "00", right(name + "00;", 0).law(law), 0);
            due(3, name + "01", right(name + "01;", 0).law(law), 1);
            fault(name + (most + 1) + ";", at);
            fault(name + "000;", at);
            fault(name + "001;", at);
            fault(name + "100;", at);
            fault(name + "-1;", at);
            fault(name + ";", at);
            fault(name + "x;", at);
            fault(name + "1 1;", at + 2);
            fault(name + most + "x;", (name + most).length());
            TillPairs x = right(name + "0;" + name + most + ";", 0);
            due(3, "the last one of " + name, x.law(law), most);
            for (int other = 0; other < 8; other++) {
                if (other != law) {
                    due(3, "law " + other + " stays by " + name, x.law(other), LAWS_AT_FIRST[other]);
                }
            }
            x.set(law, 2);
            due(3, "an empty house", told(x, " "), 0);
            due(3, "the untold law " + law + " stays", x.law(law), 2);
        }
    }

    private static void houseNumbers() {
        TillPairs x = right("person;person;kin 00 01;trust 01 00 09;away 01 on 00 and 09;tell 10;", 2);
        due(3, "two digits: kin", x.kin(0, 1, true), 0);
        due(3, "two digits: trust", x.trust(0, 1, 0), 9);
        due(3, "two digits: away on 0", x.away(1, 0, true), 0);
        due(3, "two digits: away on 9", x.away(1, 9, true), 0);
        due(3, "two digits: tell", x.law(TELL), 10);
        fault("person;person;kin 000 1;", 18);
        fault("person;person;kin 0 001;", 20);
        fault("person;person;kin 10 1;", 18);
        fault("person;person;trust 0 1 009;", 24);
        fault("person;person;trust 0 1 99;", 24);
        fault("person;away 000 on 1;", 12);
        fault("person;away 0 on 001;", 17);
        fault("person;away 0 on 1 and 001;", 23);
        fault("person;person;kin 99 0;", 18);
        fault("person;person;kin 0 99;", 20);
        fault("person;person;kin 999 0;", 18);
        fault("person;person;trust 99 0 1;", 20);
        fault("person;person;trust 0 99 1;", 22);
        fault("person;person;trust 999 999 999;", 20);
        fault("person;away 99 on 1;", 12);
        fault("person;away 0 on 99;", 17);
        fault("person;away 999 on 999;", 12);
        fault("tell 4294967296;", 5);
        fault("tell 4294967297;", 5);
        fault("tell 18446744073709551616;", 5);
        fault("tell " + "0".repeat(195), 5);
        fault("tell " + "9".repeat(195), 5);
    }

    private static void houseTrust() {
        for (int v = 0; v <= 9; v++) {
            TillPairs x = right("person;person;trust 0 1 " + v + ";", 2);
            due(3, "trust " + v, x.trustOn(0, 1, 0), v);
        }
        fault("person;person;trust 0 1 10;", 24);
        TillPairs x = right("person;person;trust 0 1 9;trust 1 0 3;kin 0 1;kin 1 0;", 2);
        due(3, "the last trust of two", x.trustOn(0, 1, 0), 3);
        due(3, "kin told twice are kin", x.kin(0, 1, true), 0);
    }

    private static void houseSecondUnlikeFirst() {
        fault("person;person;kin 0 0;", 20);
        fault("person;person;kin 1 1;", 20);
        fault("person;person;kin 1 01;", 20);
        fault("person;person;kin 00 0;", 21);
        fault("person;person;trust 0 0 1;", 22);
        fault("person;person;trust 1 1 1;", 22);
        fault("person;person;trust 01 1 1;", 23);
        fault("person;person;kin 2 2;", 18);
        right("person;person;trust 0 1 0;trust 0 1 1;trust 1 0 1;trust 1 0 0;", 2);
    }

    private static void houseAway() {
        for (int day = 0; day <= 9; day++) {
            TillPairs x = right("person;person;away 1 on " + day + ";", 2);
            for (int d = 0; d <= 9; d++) {
                due(3, "away on " + d + " by " + day, x.away(1, d, false), d == day ? 1 : 0);
                due(3, "the other one", x.away(0, d, false), 0);
            }
        }
        fault("person;away 0 on 10;", 17);
        fault("person;away 0 on 9 and 10;", 23);
        fault("person;away 0 on 9 and 9 and;", 28);
        fault("person;away 0 and 9;", 14);
        fault("person;away 0 on 9 on 8;", 19);
        fault("person;away 0 on 9, 8;", 18);
        fault("person;away 0 on 9 8;", 19);
        fault("person;away 0 on and 8;", 17);
        String text = "person;away 0 on 0" + " and 1".repeat(30) + ";";
        TillPairs x = right(text, 1);
        due(3, "away on the first", x.away(0, 0, true), 0);
        due(3, "away on the last", x.away(0, 1, true), 0);
        x = right("person;away 0 on 0" + "and1".repeat(45) + ";", 1);
        due(3, "as many as the tape takes", x.away(0, 1, true), 0);
        x = right("person;away 0 on 3 and 3;away 0 on 3;", 1);
        due(3, "told again it stays away", x.away(0, 3, true), 0);
    }

    private static void houseBlanks() {
        TillPairs x = right("   person   ;  person;kin   0   1   ;away  0  on  1  and  2  ;gap  7  ;   ", 2);
        due(3, "kin between blanks", x.kin(0, 1, true), 0);
        due(3, "away between blanks", x.away(0, 2, true), 0);
        due(3, "gap between blanks", x.law(GAP), 7);
        right("person;person;", 2);
        fault("per son;", 0);
        fault("person;per son;", 7);
        fault("gap 0 9;", 6);
        for (int other : new int[] {0, 9, 10, 13, 31, 33, 127, 128, 160, 255}) {
            fault((char) other + "person;", 0);
            fault("person" + (char) other + ";", 6);
            fault("person;" + (char) other, 7);
            fault("gap" + (char) other + "9;", 3);
            fault("gap 9" + (char) other + ";", 5);
        }
    }

    /** Blanks part them, and stand elsewhere as one likes: two numbers that touch are one, no other two are. */
    private static void houseTouching() {
        TillPairs x = right("person;person;kin0 1;away1on2and3;gap8;", 2);
        due(3, "kin0", x.kin(0, 1, true), 0);
        due(3, "away1on2and3", x.away(1, 3, true), 0);
        due(3, "gap8", x.law(GAP), 8);
        fault("person;person;kin01;", 19);
        fault("person;person;trust 0 11;", 22);
        fault("personperson;", 0);
        fault("person;person;awayon 1;", 14);
        fault("person;away 0 onand 1;", 14);
    }

    /** A text cut anywhere: the NAME that isn't whole, or else the end. */
    private static void houseEnds() {
        String text = "person; person;kin 0 1;trust 0 1 9;away 1 on 3 and 4;counter 7;gap 9;";
        int people = 0;
        for (int end = 0; end < text.length(); end++) {
            String cut = text.substring(0, end);
            int from = end;
            while (from > 0 && Character.isLetter(cut.charAt(from - 1))) {
                from--;
            }
            boolean statement = cut.isBlank() || cut.trim().endsWith(";");
            boolean wholeName = end == from || !Character.isLetter(text.charAt(end));
            if (statement) {
                people = Math.min(2, cut.length() / 7);
                right(cut, people);
            } else {
                fault(cut, wholeName ? end : from);
                if (wholeName) {
                    fault(cut + "  ", end + 2);
                }
            }
        }
        right(text, 2);
    }

    private static void houseOtherBytes() {
        for (int other = 0; other < 256; other++) {
            boolean sign = other >= 'a' && other <= 'z' || other >= '0' && other <= '9' || other == ';' || other == ' ';
            if (!sign) {
                fault("person;" + (char) other + "take 5;", 7);
                fault("take " + (char) other + ";", 5);
                fault("take 5" + (char) other, 6);
                fault("perso" + (char) other + ";", 0);
            }
        }
        fault(";", 0);
        fault("person;;", 7);
        fault("0;", 0);
        fault("person;7;", 7);
        fault("person 0;", 7);
        fault("take;", 4);
        fault("take 5 take 5;", 7);
        fault("take5take 5;", 5);
    }

    private static void houseNames() {
        String[] names = {"person", "kin", "trust", "away", "take", "pain", "eye", "counter", "reader", "fade", "tell", "gap"};
        for (String name : names) {
            fault(name.substring(1) + " 0;", 0);
            fault(name.substring(0, name.length() - 1) + " 0;", 0);
            fault(name + "s 0;", 0);
            fault("x" + name + " 0;", 0);
            for (char letter = 'a'; letter <= 'z'; letter++) {
                fault(name + letter + " 0;", 0);
                fault(letter + name + " 0;", 0);
            }
            fault(Character.toUpperCase(name.charAt(0)) + name.substring(1) + " 0;", 0);
            fault(name + "  ", name.length() + 2);
            for (int i = 0; i < name.length(); i++) {
                fault(name.substring(0, i) + "q" + name.substring(i + 1) + ";", 0);
            }
        }
        fault("on 1;", 0);
        fault("and 1;", 0);
        fault("person;away 0 o 1;", 14);
        fault("person;away 0 onn 1;", 14);
        fault("person;away 0 on 1 an 2;", 19);
        fault("person;away 0 on 1 andd 2;", 19);
        fault("person;away 0 on 1 aaa 2;", 19);
        fault("`{;", 0);
    }

    private static void houseFirstFault() {
        fault("take 21;pain 100;", 5);
        fault("take 20;pain 100;", 13);
        fault("person;person;kin 5 5 5", 18);
        fault("person;away 9 at 99 or", 12);
        fault("person;away 0 at 99 or", 14);
        fault("person;away 0 on 99 or", 17);
        fault("x y z", 0);
        fault("take 21", 5);
    }

    private static void houseByItAlone() {
        TillPairs x = with(8);
        for (int p = 0; p < 8; p++) {
            for (int q = 0; q < p; q++) {
                x.kin(p, q, true);
                x.trust(p, q, 9);
            }
        }
        for (int day = 0; day < 10; day++) {
            for (int post = 0; post < 4; post++) {
                x.post(day, post, 7 - post);
            }
            x.surprise(day, true);
            x.loss(day, 99);
            x.away(day % 8, day, true);
            x.away(7, day, true);
        }
        x.prove();
        due(3, "eight new people", told(x, EIGHT), 8);
        due(3, "no rows", x.many(3), 0);
        due(3, "no row", x.row(0, 0), -9);
        for (int p = 0; p < 8; p++) {
            for (int q = 0; q < p; q++) {
                due(3, "kin " + p + " " + q, x.kin(p, q, false), 0);
                due(3, "trust " + p + " " + q, x.trust(p, q, 0), 0);
            }
        }
        for (int day = 0; day < 10; day++) {
            for (int post = 0; post < 4; post++) {
                due(3, "post " + post + " of day " + day, x.postOf(day, post), NOBODY);
            }
            due(3, "surprise " + day, x.surprise(day, false), 0);
            due(3, "loss " + day, x.loss(day, 0), 0);
            due(3, "away " + day, x.away(day % 8, day, false), 0);
            due(3, "away " + day, x.away(7, day, false), 0);
        }
    }

    /** A fault late in the text: nothing that was told ahead of it has come to THE HOUSE. */
    private static void houseAfterFault() {
        TillPairs x = with(2);
        x.set(TAKE, 11);
        till(x, 9, 0, 1);
        x.surprise(9, true);
        x.loss(9, 5);
        x.prove();
        due(3, "a late fault", told(x, "person;person;person;kin 0 1;trust 0 1 9;away 0 on 9;take 3;!"), -160);
        due(3, "people", x.many(0), 2);
        due(3, "kin", x.kin(0, 1, false), 0);
        due(3, "trust", x.trust(0, 1, 0), 0);
        due(3, "away", x.away(0, 9, false), 0);
        due(3, "take", x.law(TAKE), 11);
        due(3, "posts", x.postOf(9, 1), 1);
        due(3, "surprise", x.surprise(9, true), 0);
        due(3, "loss", x.loss(9, 5), 5);
        due(3, "rows", x.judge(), 0);
        due(3, "how many rows", x.many(3), 10);
        due(3, "the tape is used up", x.many(4), 0);
        due(3, "what was read is gone: a new house", told(x, "person;person;"), 2);
        due(3, "no kin", x.kin(0, 1, false), 0);
        due(3, "no trust", x.trust(0, 1, 0), 0);
        due(3, "not away", x.away(0, 9, false), 0);
        due(3, "take stays", x.law(TAKE), 11);
    }

    private static void houseKeepsOthers() {
        TillPairs x = with(2);
        x.plan(3, 4095);
        x.seed(LEAST);
        x.keep();
        x.sheet(0, 1, 3);
        x.put(0, 2, 5);
        x.shelf(0, 0, 0);
        x.act(0, 0, 1);
        due(3, "a house", told(x, "person;person;person;"), 3);
        due(3, "plans stay", x.planOf(0, 1), 4095);
        due(3, "how many plans", x.many(1), 1);
        due(3, "sheets stay", x.item(0, 1, 2), 5);
        due(3, "shelves stay", x.taken(0, 3), 0);
        due(3, "the trace stays", x.many(5), 3);
        due(3, "z stays", x.seed(0), LEAST);
        due(3, "what was kept stays", x.again(), 2);
    }

    // ---- promises 4 to 13

    private static void personNumbers() {
        TillPairs x = new TillPairs();
        for (int p = 0; p < 8; p++) {
            due(4, "no person " + p + " yet", x.post(0, 0, p), BAD);
            due(4, "person " + p, x.person(), p);
            due(4, "there he is", x.post(0, 0, p), p == 0 ? NOBODY : p - 1);
            due(4, "how many", x.many(0), p + 1);
        }
        for (int times = 0; times < 3; times++) {
            due(4, "a ninth", x.person(), FULL);
            due(4, "still eight", x.many(0), 8);
            due(4, "no person 8", x.post(0, 0, 8), BAD);
        }
        due(4, "a house of seven", told(x, EIGHT.substring(7)), 7);
        due(4, "an eighth", x.person(), 7);
        due(4, "a ninth", x.person(), FULL);
    }

    private static void personIsNew() {
        TillPairs x = with(3);
        x.keep();
        for (int p = 3; p < 8; p++) {
            x.person();
            for (int q = 0; q < p; q++) {
                x.kin(p, q, true);
                x.trust(p, q, 9);
            }
            x.away(p, 9, true);
        }
        x.again();
        for (int p = 3; p < 8; p++) {
            due(4, "person " + p + " once more", x.person(), p);
            for (int q = 0; q < p; q++) {
                due(5, "not kin at first", x.kin(p, q, false), 0);
                due(6, "0 at first", x.trust(p, q, 0), 0);
            }
            due(7, "not away at first", x.away(p, 9, false), 0);
        }
    }

    private static void kinEdges() {
        TillPairs x = with(7);
        for (int p = 0; p < 7; p++) {
            for (int q = 0; q < 7; q++) {
                if (p != q) {
                    due(5, "not at first", x.kin(p, q, false), 0);
                    due(5, "new", x.kin(p, q, true), 1);
                    due(5, "not new", x.kin(p, q, true), 0);
                    due(5, "the other way round", x.kin(q, p, true), 0);
                    due(5, "back", x.kin(q, p, false), 1);
                }
            }
        }
        x.kin(6, 0, true);
        for (boolean are : new boolean[] {true, false}) {
            for (int no : new int[] {-1, 7, 8, 31, 32, LEAST, MOST}) {
                due(5, "kin(" + no + ", 0)", x.kin(no, 0, are), BAD);
                due(5, "kin(0, " + no + ")", x.kin(0, no, are), BAD);
                due(5, "kin(" + no + ", " + no + ")", x.kin(no, no, are), BAD);
            }
            due(5, "the same", x.kin(0, 0, are), BAD);
            due(5, "the same", x.kin(6, 6, are), BAD);
        }
        due(5, "they are kin still", x.kin(0, 6, true), 0);
        due(5, "no others are", x.kin(0, 5, false), 0);
        due(5, "an eighth person", x.person(), 7);
        due(5, "kin of him", x.kin(7, 0, true), 1);
    }

    private static void trustEdges() {
        TillPairs x = with(7);
        for (int v : new int[] {0, 9}) {
            due(6, "trust " + v, x.trust(0, 6, v), 0);
            due(6, "what it was", x.trust(6, 0, v), v);
        }
        for (int v : new int[] {-1, 10, LEAST, MOST}) {
            due(6, "trust of " + v, x.trust(0, 6, v), BAD);
            due(6, "as it was", x.trustOn(0, 6, 0), 9);
        }
        for (int no : new int[] {-1, 7, 8, LEAST, MOST}) {
            due(6, "trust(" + no + ", 0)", x.trust(no, 0, 1), BAD);
            due(6, "trust(0, " + no + ")", x.trust(0, no, 1), BAD);
        }
        due(6, "the same", x.trust(0, 0, 1), BAD);
        due(6, "the same", x.trust(6, 6, 1), BAD);
        for (int p = 0; p < 7; p++) {
            for (int q = 0; q < p; q++) {
                due(6, "of " + p + " and " + q, x.trust(p, q, 0), p == 6 && q == 0 ? 9 : 0);
            }
        }
    }

    private static void awayEdges() {
        TillPairs x = with(7);
        for (int p = 0; p < 7; p += 6) {
            for (int day = 0; day < 10; day++) {
                due(7, "not at first", x.away(p, day, false), 0);
                due(7, "new", x.away(p, day, true), 1);
                due(7, "not new", x.away(p, day, true), 0);
            }
        }
        for (boolean is : new boolean[] {true, false}) {
            for (int no : new int[] {-1, 7, 8, LEAST, MOST}) {
                due(7, "person " + no, x.away(no, 0, is), BAD);
            }
            for (int no : NO_DAYS) {
                due(7, "day " + no, x.away(0, no, is), BAD);
            }
            due(7, "day 32", x.away(0, 32, is), BAD);
        }
        for (int day = 0; day < 10; day++) {
            due(7, "away still", x.away(0, day, false), 1);
            due(7, "the other one still", x.away(6, day, true), 0);
            due(7, "another one never", x.away(1, day, false), 0);
        }
    }

    private static void lawEdges() {
        TillPairs x = new TillPairs();
        for (int law = 0; law < 8; law++) {
            due(9, "law " + law + " at first", x.law(law), LAWS_AT_FIRST[law]);
            due(8, "0", x.set(law, 0), LAWS_AT_FIRST[law]);
            due(8, "the most", x.set(law, MOST_OF_LAW[law]), 0);
            for (int v : new int[] {-1, MOST_OF_LAW[law] + 1, LEAST, MOST}) {
                due(8, "law " + law + " of " + v, x.set(law, v), BAD);
                due(9, "as it was", x.law(law), MOST_OF_LAW[law]);
            }
        }
        for (int no : new int[] {-1, 8, LEAST, MOST}) {
            due(8, "set(" + no + ", 1)", x.set(no, 1), BAD);
            due(9, "law(" + no + ")", x.law(no), BAD);
        }
        for (int law = 0; law < 8; law++) {
            due(9, "no other law has changed", x.law(law), MOST_OF_LAW[law]);
        }
    }

    private static void postEdges() {
        TillPairs x = with(7);
        for (int day = 0; day < 10; day++) {
            for (int post = 0; post < 4; post++) {
                due(10, "nobody at first", x.post(day, post, -1), NOBODY);
                due(10, "the last one", x.post(day, post, 6), NOBODY);
                due(10, "the first one", x.post(day, post, 0), 6);
                due(10, "another", x.post(day, post, (day + post) % 7), 0);
            }
        }
        for (int no : NO_DAYS) {
            due(10, "day " + no, x.post(no, 0, 0), BAD);
            due(10, "nobody on day " + no, x.post(no, 0, -1), BAD);
            due(11, "day " + no, x.postOf(no, 0), BAD);
        }
        for (int no : NO_PLACES) {
            due(10, "post " + no, x.post(1, no, 0), BAD);
            due(10, "nobody at post " + no, x.post(1, no, -1), BAD);
            due(11, "post " + no, x.postOf(1, no), BAD);
        }
        for (int no : new int[] {7, 8, -2, -9, LEAST, MOST}) {
            due(10, "person " + no, x.post(0, 0, no), BAD);
        }
        for (int day = 0; day < 10; day++) {
            for (int post = 0; post < 4; post++) {
                due(11, "who is there", x.postOf(day, post), (day + post) % 7);
                due(10, "nobody any more", x.post(day, post, -1), (day + post) % 7);
                due(11, "nobody", x.postOf(day, post), NOBODY);
            }
        }
    }

    private static void surpriseEdges() {
        TillPairs x = new TillPairs();
        for (int day = 0; day < 10; day++) {
            due(12, "not at first", x.surprise(day, false), 0);
            due(12, "new", x.surprise(day, true), 1);
            due(12, "not new", x.surprise(day, true), 0);
        }
        for (int no : new int[] {-1, 10, 31, 32, LEAST, MOST}) {
            due(12, "day " + no, x.surprise(no, true), BAD);
            due(12, "none on day " + no, x.surprise(no, false), BAD);
        }
        for (int day = 0; day < 10; day++) {
            due(12, "no more", x.surprise(day, false), 1);
            due(12, "not again", x.surprise(day, false), 0);
        }
    }

    private static void lossEdges() {
        TillPairs x = new TillPairs();
        for (int day = 0; day < 10; day++) {
            due(13, "0 at first", x.loss(day, 99), 0);
            due(13, "99", x.loss(day, 0), 99);
            due(13, "0", x.loss(day, 10 + day), 0);
            for (int v : new int[] {-1, 100, LEAST, MOST}) {
                due(13, "loss of " + v, x.loss(day, v), BAD);
            }
        }
        for (int no : NO_DAYS) {
            due(13, "day " + no, x.loss(no, 5), BAD);
        }
        for (int day = 0; day < 10; day++) {
            due(13, "as it was", x.loss(day, 0), 10 + day);
        }
    }
}
