/** The boundaries of SHEETS, SHELVES, ACTS and what is kept: promises 35 to 45. */
public final class HostEdges extends Checks {
    private static final int BYTES = 0, SHORTS = 1, INTS = 2, LONGS = 3;
    private static final int SITS = 0, COUNTS = 1, SHARES = 2, TELLS = 3;
    private static final int TURN = 1, DRAW = 2, COUNTED = 3, REST = 4, AS_TOLD = 5;

    public static void main(String[] args) {
        sheetSizes();
        sheetRefused();
        sheetMissing();
        sheetAllZero();
        putPlaces();
        putNarrows();
        putRefusalsInOrder();
        itemRefusalsInOrder();
        itemsAsLowAsRefusals();
        shelfThings();
        shelfRefused();
        takenKinds();
        takenRows();
        takenRefused();
        shelfOfAPlanThatWent();
        shelfOfARowThatChanged();
        actsOfNothing();
        actsWrap();
        actsCut();
        actsPart();
        actsPartWithin();
        traceEnds();
        traceOfTheLatest();
        daysEdges();
        daysPeople();
        daysRefused();
        manyEdges();
        keepNothing();
        keepTheLatest();
        keepAll();
        againLeaves();
        end();
    }

    private static TillPairs shelved(int number, int kind, int a) {
        TillPairs x = new TillPairs();
        for (int n = 0; n < number; n++) {
            x.plan(TURN, 0);
        }
        x.plan(kind, a);
        x.shelf(0, 0, number);
        return x;
    }

    // ---- promises 35 to 37

    private static void sheetSizes() {
        for (int sort = BYTES; sort <= LONGS; sort++) {
            TillPairs x = new TillPairs();
            for (int n = 0; n <= 40; n++) {
                due(35, "sort " + sort + " of " + n, x.sheet(3, sort, n), 1);
                due(37, "behind the last of " + n, x.item(3, sort, n), OUTSIDE);
                due(37, "the last of " + n, x.item(3, sort, n - 1), n == 0 ? OUTSIDE : 0);
                due(37, "the first of " + n, x.item(3, sort, 0), n == 0 ? OUTSIDE : 0);
                due(36, "behind the last of " + n, x.put(3, n, 1), OUTSIDE);
                due(36, "the last of " + n, x.put(3, n - 1, 1), n == 0 ? OUTSIDE : 1);
            }
        }
    }

    private static void sheetRefused() {
        TillPairs x = new TillPairs();
        for (int sort = BYTES; sort <= LONGS; sort++) {
            x.sheet(0, 2, 2);
            x.put(0, 1, 9);
            for (int n : new int[] {41, 42, MOST}) {
                due(35, "sort " + sort + " of " + n, x.sheet(0, sort, n), BAD);
            }
            for (int n : new int[] {-1, -40, LEAST}) {
                due(35, "sort " + sort + " of " + n, x.sheet(0, sort, n), BELOW_ZERO);
            }
            for (int n : new int[] {-1, 0, 40, 41}) {
                for (int no : NO_PLACES) {
                    due(35, "sheet " + no + " of " + n, x.sheet(no, sort, n), BAD);
                }
            }
            due(37, "it stays", x.item(0, 2, 1), 9);
            due(37, "two items", x.item(0, 2, 2), OUTSIDE);
        }
        for (int no : new int[] {-2, 4, LEAST, MOST}) {
            for (int n : new int[] {-1, 0, 40, 41}) {
                due(35, "sort " + no + " of " + n, x.sheet(0, no, n), BAD);
            }
        }
        due(37, "it stays", x.item(0, 2, 1), 9);
    }

    private static void sheetMissing() {
        TillPairs x = new TillPairs();
        for (int n : new int[] {0, 1, 40, 41, -1, LEAST, MOST}) {
            for (int sheet = 0; sheet < 4; sheet++) {
                due(35, "a row", x.sheet(sheet, SHORTS, 3), 1);
                due(37, "it is there", x.item(sheet, SHORTS, 2), 0);
                due(35, "missing, n " + n, x.sheet(sheet, -1, n), 1);
                due(37, "it is missing", x.item(sheet, SHORTS, 2), NOTHING);
                due(35, "missing again, n " + n, x.sheet(sheet, -1, n), 1);
            }
        }
        for (int no : NO_PLACES) {
            due(35, "sheet " + no + " missing", x.sheet(no, -1, 0), BAD);
        }
    }

    private static void sheetAllZero() {
        TillPairs x = new TillPairs();
        x.sheet(0, INTS, 40);
        for (int i = 0; i < 40; i++) {
            x.put(0, i, -1 - i);
        }
        for (int i = 0; i < 40; i++) {
            due(36, "item " + i, x.item(0, INTS, i), -1 - i);
        }
        x.sheet(1, INTS, 40);
        x.sheet(0, LONGS, 40);
        for (int i = 0; i < 40; i++) {
            due(35, "item " + i + " of a new row", x.item(0, LONGS, i), 0);
            due(35, "item " + i + " of another sheet", x.item(1, INTS, i), 0);
        }
        x.put(0, 39, 5);
        x.sheet(0, LONGS, 40);
        due(35, "the same size and sort once more", x.item(0, LONGS, 39), 0);
        x.put(0, 39, 5);
        x.sheet(0, -1, 0);
        x.sheet(0, LONGS, 40);
        due(35, "missing in between", x.item(0, LONGS, 39), 0);
    }

    private static void putPlaces() {
        TillPairs x = new TillPairs();
        for (int sheet = 0; sheet < 4; sheet++) {
            x.sheet(sheet, sheet, 5);
        }
        for (int sheet = 0; sheet < 4; sheet++) {
            for (int i : new int[] {-1, 5, 40, LEAST, MOST}) {
                due(36, "place " + i, x.put(sheet, i, 7), OUTSIDE);
                due(37, "place " + i, x.item(sheet, sheet, i), OUTSIDE);
            }
            for (int i = 0; i < 5; i++) {
                due(37, "nothing is changed", x.item(sheet, sheet, i), 0);
                due(36, "place " + i, x.put(sheet, i, 10 * sheet + i), 1);
            }
        }
        for (int sheet = 0; sheet < 4; sheet++) {
            for (int i = 0; i < 5; i++) {
                due(37, "item " + i + " of sheet " + sheet, x.item(sheet, sheet, i), 10 * sheet + i);
            }
        }
    }

    private static void putNarrows() {
        int[] values = {0, 1, -1, 127, 128, 129, 255, 256, -128, -129, 32767, 32768, 32769, 65535, 65536, -32768, -32769,
            8388608, MOST, LEAST, LEAST + 1};
        TillPairs x = new TillPairs();
        for (int sort = BYTES; sort <= LONGS; sort++) {
            x.sheet(sort, sort, 1);
        }
        for (int v : values) {
            int low = v & 255;
            int half = v & 65535;
            int[] want = {low < 128 ? low : low - 256, half < 32768 ? half : half - 65536, v, v};
            for (int sort = BYTES; sort <= LONGS; sort++) {
                due(36, "put " + v, x.put(sort, 0, v), 1);
                due(37, v + " in sort " + sort, x.item(sort, sort, 0), want[sort]);
            }
        }
    }

    private static void putRefusalsInOrder() {
        TillPairs x = new TillPairs();
        for (int i : new int[] {-1, 0, 39, 40, LEAST, MOST}) {
            for (int no : NO_PLACES) {
                due(36, "no sheet " + no, x.put(no, i, 1), BAD);
            }
            for (int sheet = 0; sheet < 4; sheet++) {
                due(36, "missing, place " + i, x.put(sheet, i, 1), NOTHING);
            }
        }
        x.sheet(0, BYTES, 0);
        due(36, "a row of none", x.put(0, 0, 1), OUTSIDE);
    }

    private static void itemRefusalsInOrder() {
        TillPairs x = new TillPairs();
        x.sheet(1, SHORTS, 2);
        for (int i : new int[] {-1, 0, 1, 2, LEAST, MOST}) {
            boolean in = i == 0 || i == 1;
            for (int no : NO_PLACES) {
                for (int sort = -1; sort <= 4; sort++) {
                    due(37, "no sheet " + no, x.item(no, sort, i), BAD);
                }
                due(37, "no sort " + no + " of a missing sheet", x.item(0, no, i), BAD);
                due(37, "no sort " + no, x.item(1, no, i), BAD);
            }
            for (int sort = BYTES; sort <= LONGS; sort++) {
                due(37, "missing", x.item(0, sort, i), NOTHING);
                int want = sort != SHORTS ? OTHER : in ? 0 : OUTSIDE;
                due(37, "shorts as sort " + sort + ", place " + i, x.item(1, sort, i), want);
            }
        }
    }

    private static void itemsAsLowAsRefusals() {
        TillPairs x = new TillPairs();
        for (int sort = BYTES; sort <= LONGS; sort++) {
            x.sheet(0, sort, 1);
            for (int v = -15; v < 0; v++) {
                x.put(0, 0, v);
                due(37, "an item of " + v, x.item(0, sort, 0), v);
            }
        }
    }

    // ---- promises 38 and 39

    private static void shelfThings() {
        TillPairs x = new TillPairs();
        for (int n = 0; n < 4; n++) {
            x.plan(TURN, n);
            x.sheet(n, n, 10 + n);
        }
        for (int shelf = 0; shelf < 4; shelf++) {
            for (int n = 0; n < 4; n++) {
                due(38, "plan " + n, x.shelf(shelf, 0, n), 1);
                due(39, "plan " + n, x.taken(shelf, TURN), n);
                due(38, "row " + n, x.shelf(shelf, 1, n), 1);
                due(39, "row " + n, x.taken(shelf, 10 + n), 10 + n);
            }
            for (int n : new int[] {0, -1, 4, LEAST, MOST}) {
                due(38, "a plan", x.shelf(shelf, 0, 3), 1);
                due(38, "nothing, n " + n, x.shelf(shelf, 2, n), 1);
                due(39, "nothing", x.taken(shelf, TURN), NOTHING);
                due(39, "no row", x.taken(shelf, 10), NOTHING);
            }
        }
        for (int shelf = 0; shelf < 4; shelf++) {
            x.shelf(shelf, 0, 3 - shelf);
        }
        for (int shelf = 0; shelf < 4; shelf++) {
            due(39, "each shelf its own", x.taken(shelf, TURN), 3 - shelf);
        }
    }

    private static void shelfRefused() {
        TillPairs x = new TillPairs();
        x.plan(TURN, 0);
        x.plan(TURN, 0);
        x.shelf(0, 0, 1);
        for (int no : NO_PLACES) {
            for (int what = -1; what <= 3; what++) {
                due(38, "shelf " + no, x.shelf(no, what, 0), BAD);
            }
            due(38, "sheet " + no, x.shelf(0, 1, no), BAD);
            due(38, "plan " + no, x.shelf(0, 0, no), BAD);
        }
        for (int no : new int[] {2, 3}) {
            due(38, "no plan " + no + " yet", x.shelf(0, 0, no), BAD);
        }
        for (int what : new int[] {-1, 3, LEAST, MOST}) {
            due(38, "what " + what, x.shelf(0, what, 0), BAD);
        }
        due(39, "it holds what it held", x.taken(0, TURN), 1);
        due(39, "the others nothing", x.taken(1, TURN), NOTHING);
        due(38, "a missing sheet is nothing", x.shelf(0, 1, 3), 1);
        due(39, "nothing", x.taken(0, 12), NOTHING);
        due(39, "nothing", x.taken(0, TURN), NOTHING);
    }

    private static void takenKinds() {
        int[] above = {-1, 0, 0, 2, 1, 0};
        for (int kind = TURN; kind <= AS_TOLD; kind++) {
            for (int number = 0; number < 4; number++) {
                TillPairs x = shelved(number, kind, 9);
                for (int as = 0; as <= 5; as++) {
                    boolean under = as == kind || as == above[kind] || as == above[above[kind]] || as == 0;
                    due(39, "kind " + kind + " as " + as, x.taken(0, as), under ? number : OTHER);
                }
                for (int as = 10; as <= 13; as++) {
                    due(39, "kind " + kind + " as a row", x.taken(0, as), OTHER);
                }
            }
        }
    }

    private static void takenRows() {
        for (int sort = BYTES; sort <= LONGS; sort++) {
            for (int n : new int[] {0, 1, 39, 40}) {
                TillPairs x = new TillPairs();
                x.sheet(2, sort, n);
                x.shelf(3, 1, 2);
                for (int as = 0; as <= 5; as++) {
                    due(39, "a row as kind " + as, x.taken(3, as), OTHER);
                }
                for (int as = 10; as <= 13; as++) {
                    due(39, "sort " + sort + " as " + as, x.taken(3, as), as - 10 == sort ? n : OTHER);
                }
            }
        }
    }

    private static void takenRefused() {
        TillPairs x = shelved(0, TURN, 0);
        x.sheet(0, BYTES, 4);
        x.shelf(1, 1, 0);
        for (int as : new int[] {-1, 6, 7, 8, 9, 14, 15, LEAST, MOST}) {
            for (int shelf = -1; shelf <= 4; shelf++) {
                due(39, "shelf " + shelf + " as " + as, x.taken(shelf, as), BAD);
            }
        }
        for (int no : NO_PLACES) {
            for (int as = 0; as <= 13; as++) {
                due(39, "shelf " + no + " as " + as, x.taken(no, as), BAD);
            }
        }
        for (int as = 0; as <= 13; as++) {
            boolean is = as < 6 || as > 9;
            due(39, "nothing as " + as, x.taken(2, as), is ? NOTHING : BAD);
        }
    }

    private static void shelfOfAPlanThatWent() {
        TillPairs x = new TillPairs();
        x.plan(TURN, 3);
        x.keep();
        x.plan(DRAW, 5);
        x.shelf(0, 0, 0);
        x.shelf(1, 0, 1);
        due(39, "plan 1 is", x.taken(1, DRAW), 1);
        x.act(1, SITS, 1);
        x.again();
        due(39, "plan 1 isn't any more", x.taken(1, DRAW), NOTHING);
        due(39, "as a row neither", x.taken(1, 10), NOTHING);
        due(39, "as 6", x.taken(1, 6), BAD);
        due(43, "the trace stays so far", x.many(5), 2);
        due(40, "an act of nothing", x.act(1, SITS, 1), 0);
        due(43, "no trace then", x.many(5), 0);
        due(38, "plan 1 isn't for a shelf", x.shelf(2, 0, 1), BAD);
        due(39, "plan 0 is still", x.taken(0, TURN), 0);
        x.plan(AS_TOLD, 7);
        due(39, "another plan 1", x.taken(1, AS_TOLD), 1);
        due(39, "it is no draw", x.taken(1, DRAW), OTHER);
    }

    private static void shelfOfARowThatChanged() {
        TillPairs x = new TillPairs();
        x.sheet(0, INTS, 5);
        x.shelf(0, 1, 0);
        x.put(0, 0, 9);
        due(39, "an item changed", x.taken(0, 12), 5);
        x.sheet(0, BYTES, 7);
        due(39, "it is the row that it was", x.taken(0, 12), 5);
        due(39, "not the other", x.taken(0, 10), OTHER);
        x.sheet(0, -1, 0);
        due(39, "missing now, but held", x.taken(0, 12), 5);
        x.shelf(1, 1, 0);
        due(39, "held as missing", x.taken(1, 12), NOTHING);
        x.sheet(0, INTS, 5);
        due(39, "still nothing", x.taken(1, 12), NOTHING);
    }

    // ---- promises 40 and 41

    private static void act(TillPairs x, int shelf, int act, int v, int answer, int... bodies) {
        String what = "act(" + shelf + ", " + act + ", " + v + ")";
        due(40, what, x.act(shelf, act, v), answer);
        due(43, "bodies of " + what, x.many(5), bodies.length);
        for (int i = 0; i < bodies.length; i++) {
            due(41, what + ", body " + i, x.trace(i), bodies[i]);
        }
        due(41, what + ", behind the last", x.trace(bodies.length), NONE);
    }

    private static void actsOfNothing() {
        for (int no : NO_PLACES) {
            TillPairs x = shelved(0, TURN, 4);
            act(x, 0, SITS, 7, 7, 10);
            act(x, no, SITS, 7, 0);
            act(x, 0, SITS, 7, 7, 10);
            act(x, 0, no, 7, 0);
            act(x, 0, TELLS, 7, 10 ^ 4, 13, 20, 11, 10);
            act(x, no, no, 7, 0);
        }
        TillPairs x = shelved(0, TURN, 4);
        x.sheet(0, INTS, 3);
        x.shelf(1, 1, 0);
        for (int act = SITS; act <= TELLS; act++) {
            x.act(0, SITS, 1);
            act(x, 1, act, 7, 0);
            x.act(0, SITS, 1);
            act(x, 2, act, 7, 0);
            x.act(0, SITS, 1);
            x.shelf(0, 2, 0);
            act(x, 0, act, 7, 0);
            x.shelf(0, 0, 0);
        }
    }

    private static void actsWrap() {
        int[] values = {MOST, MOST - 1, LEAST, LEAST + 1, 1 << 30, -(1 << 30) - 1, 0x55555556};
        for (int v : values) {
            for (int n = 0; n < 4; n++) {
                long sits = (long) v + n;
                act(shelved(n, TURN, 0), 0, SITS, v, (int) sits, 10);
                act(shelved(n, TURN, 4095), 0, COUNTS, v, (int) (2 * sits - 4095), 20, 11, 10);
                act(shelved(n, DRAW, 77), 0, SITS, v, (int) (3 * sits), 30, 10);
                act(shelved(n, DRAW, 77), 0, COUNTS, v, (int) (6 * sits), 11, 30, 10);
                act(shelved(n, COUNTED, 77), 0, SITS, v, (int) (-3 * sits), 40, 30, 10);
                act(shelved(n, COUNTED, 77), 0, COUNTS, v, (int) (-6 * sits - 6 * n), 41, 11, 40, 30, 10, 40, 30, 10);
                act(shelved(n, REST, 77), 0, SITS, v, v, 51, 10);
                act(shelved(n, AS_TOLD, 77), 0, TELLS, v, (int) (((int) (2 * sits) ^ 77L) * 2), 60, 13, 11, 10);
                int tells = (int) (6 * sits) ^ 77;
                act(shelved(n, DRAW, 77), 0, TELLS, v, tells + n / (77 - n), 31, 13, 11, 30, 10, 12);
                act(shelved(n, AS_TOLD, 4095), 0, SHARES, v, v / (4095 - n) + 4095 + n, 61, 12, 10);
                int two = (int) ((long) v + 2);
                act(shelved(n, REST, 77), 0, SHARES, v, two / (77 - n) ^ 1, 50, 12);
            }
        }
        act(shelved(1, TURN, 0), 0, SHARES, LEAST, LEAST, 12);
        act(shelved(1, AS_TOLD, 0), 0, SHARES, LEAST, LEAST + 1, 61, 12, 10);
        act(shelved(1, REST, 0), 0, SHARES, MOST - 1, LEAST ^ 1, 50, 12);
    }

    /** Quotients are cut towards 0. */
    private static void actsCut() {
        for (int n = 0; n < 4; n++) {
            for (int a = 0; a < 8; a++) {
                if (a != n) {
                    TillPairs x = shelved(n, TURN, a);
                    for (int v = -9; v <= 9; v++) {
                        int size = Math.abs(v) / Math.abs(a - n);
                        act(x, 0, SHARES, v, v < 0 != a < n ? -size : size, 12);
                    }
                }
            }
        }
        act(shelved(0, TURN, 4095), 0, SHARES, 4094, 0, 12);
        act(shelved(0, TURN, 4095), 0, SHARES, 4095, 1, 12);
        act(shelved(0, TURN, 4095), 0, SHARES, -4094, 0, 12);
        act(shelved(0, TURN, 4095), 0, SHARES, -4095, -1, 12);
    }

    private static void actsPart() {
        for (int n = 0; n < 4; n++) {
            for (int v : new int[] {0, 5, LEAST, MOST}) {
                act(shelved(n, TURN, n), 0, SHARES, v, PARTED, 12);
                act(shelved(n, DRAW, n), 0, SHARES, v, PARTED, 12);
                act(shelved(n, COUNTED, n), 0, SHARES, v, PARTED, 12);
                act(shelved(n, REST, n), 0, SHARES, v, PARTED, 50, 12);
                act(shelved(n, AS_TOLD, n), 0, SHARES, v, PARTED, 61, 12);
            }
            TillPairs x = shelved(n, TURN, n);
            act(x, 0, SHARES, 5, PARTED, 12);
            act(x, 0, SITS, 5, 5 + n, 10);
            act(x, 0, TELLS, 5, 2 * (5 + n) - n ^ n, 13, 20, 11, 10);
            act(shelved(n, TURN, n + 1), 0, SHARES, 5, 5, 12);
            act(shelved(n, TURN, n == 0 ? 2 : n - 1), 0, SHARES, 6, n == 0 ? 3 : -6, 12);
        }
        act(shelved(0, TURN, 0), 0, SITS, PARTED, PARTED, 10);
    }

    private static void actsPartWithin() {
        for (int n = 0; n < 4; n++) {
            act(shelved(n, DRAW, n), 0, TELLS, 5, PARTED, 31, 13, 11, 30, 10, 12);
            act(shelved(n, COUNTED, n), 0, TELLS, 5, PARTED, 31, 13, 41, 11, 40, 30, 10, 40, 30, 10, 12);
            act(shelved(n, REST, n), 0, TELLS, 5, 2 * 5 - n ^ n, 13, 20, 11, 51, 10);
            act(shelved(n, AS_TOLD, n), 0, TELLS, 5, (2 * (5 + n) ^ n) * 2, 60, 13, 11, 10);
            act(shelved(n, DRAW, n), 0, COUNTS, 5, 6 * (5 + n), 11, 30, 10);
            int one = n + 1;
            act(shelved(n, DRAW, one), 0, TELLS, 5, (6 * (5 + n) ^ one) + n, 31, 13, 11, 30, 10, 12);
            if (n > 0) {
                act(shelved(n, DRAW, 0), 0, TELLS, 5, 6 * (5 + n) - 1, 31, 13, 11, 30, 10, 12);
            }
        }
    }

    private static void traceEnds() {
        TillPairs x = shelved(0, COUNTED, 7);
        for (int i : new int[] {-1, 0, 1, 29, 30, LEAST, MOST}) {
            due(41, "no trace yet, " + i, x.trace(i), NONE);
        }
        x.act(0, TELLS, 1);
        due(43, "the longest", x.many(5), 11);
        due(41, "the first", x.trace(0), 31);
        due(41, "the last", x.trace(10), 12);
        for (int i : new int[] {-1, 11, 12, 29, 30, 31, LEAST, MOST}) {
            due(41, "outside, " + i, x.trace(i), NONE);
        }
    }

    private static void traceOfTheLatest() {
        TillPairs x = shelved(0, COUNTED, 7);
        x.act(0, TELLS, 1);
        act(x, 0, SITS, 1, -3, 40, 30, 10);
        due(41, "what was behind is gone", x.trace(3), NONE);
        act(x, 1, SITS, 1, 0);
        due(41, "all is gone", x.trace(0), NONE);
        for (int times = 0; times < 20; times++) {
            act(x, 0, COUNTS, 0, 0, 41, 11, 40, 30, 10, 40, 30, 10);
        }
    }

    // ---- promises 42 and 43

    private static void daysEdges() {
        for (int post = 0; post < 4; post++) {
            for (int n : new int[] {0, 1, 9, 10, 11, 40}) {
                TillPairs x = with(8);
                for (int day = 0; day < 10; day++) {
                    seat(x, day, 6, 6, 6, 6);
                }
                x.sheet(3, INTS, n);
                for (int i = 0; i < n; i++) {
                    x.put(3, i, i % 8);
                }
                due(42, n + " items", x.days(post, 3), Math.min(n, 10));
                for (int day = 0; day < 10; day++) {
                    due(42, "day " + day, x.postOf(day, post), day < n ? day % 8 : 6);
                    due(42, "another post", x.postOf(day, (post + 1) % 4), 6);
                }
                due(42, "the sheet stays", n == 0 ? 0 : x.item(3, INTS, n - 1), n == 0 ? 0 : (n - 1) % 8);
            }
        }
    }

    private static void daysPeople() {
        for (int people = 0; people <= 8; people++) {
            TillPairs x = with(people);
            int[] told = {0, people - 1, people, -1, -9, LEAST, MOST, 8, 7};
            x.sheet(0, INTS, told.length);
            for (int i = 0; i < told.length; i++) {
                x.put(0, i, told[i]);
                x.post(i, 2, people - 1);
            }
            due(42, "nine days", x.days(2, 0), 9);
            for (int i = 0; i < told.length; i++) {
                boolean is = told[i] >= 0 && told[i] < people;
                due(42, "told " + told[i] + " of " + people, x.postOf(i, 2), is ? told[i] : NOBODY);
            }
        }
    }

    private static void daysRefused() {
        TillPairs x = with(2);
        x.post(0, 0, 1);
        for (int sort = BYTES; sort <= LONGS; sort++) {
            x.sheet(0, sort, 3);
            for (int no : NO_PLACES) {
                due(42, "post " + no + ", sort " + sort, x.days(no, 0), BAD);
                due(42, "post " + no + ", missing", x.days(no, 1), BAD);
                due(42, "sheet " + no, x.days(0, no), BAD);
            }
            due(42, "missing", x.days(3, 1), NOTHING);
            if (sort != INTS) {
                due(42, "sort " + sort, x.days(0, 0), OTHER);
                x.sheet(0, sort, 0);
                due(42, "none of sort " + sort, x.days(0, 0), OTHER);
            }
        }
        due(42, "nothing was changed", x.postOf(0, 0), 1);
    }

    private static void manyEdges() {
        TillPairs x = new TillPairs();
        for (int what : new int[] {-1, 6, LEAST, MOST}) {
            due(43, "what " + what, x.many(what), BAD);
        }
        for (int p = 0; p < 8; p++) {
            x.person();
        }
        for (int day = 0; day < 10; day++) {
            till(x, day, 0, 1);
        }
        for (int n = 0; n < 4; n++) {
            x.plan(COUNTED, 7);
        }
        x.prove();
        feedText(x, " ".repeat(200));
        x.shelf(0, 0, 0);
        x.act(0, TELLS, 0);
        int[] most = {8, 4, 10, 10, 200, 11};
        for (int what = 0; what < 6; what++) {
            due(43, "the most of " + what, x.many(what), most[what]);
        }
        for (int what : new int[] {-1, 6, LEAST, MOST}) {
            due(43, "what " + what, x.many(what), BAD);
        }
    }

    // ---- promises 44 and 45

    private static void keepNothing() {
        TillPairs x = with(3);
        x.plan(TURN, 1);
        due(45, "nothing is kept", x.again(), NONE);
        due(45, "people stay", x.many(0), 3);
        due(45, "plans stay", x.many(1), 1);
        TillPairs y = new TillPairs();
        due(44, "an empty house", y.keep(), 1);
        y.person();
        y.plan(TURN, 1);
        y.post(0, 0, 0);
        y.seed(9);
        due(45, "it comes again", y.again(), 0);
        due(45, "no people", y.many(0), 0);
        due(45, "no plans", y.many(1), 0);
        due(45, "no post", y.postOf(0, 0), NOBODY);
        due(45, "z", y.seed(4), 1);
    }

    private static void keepTheLatest() {
        TillPairs x = new TillPairs();
        for (int people = 1; people <= 8; people++) {
            x.person();
            due(44, "keep", x.keep(), 1);
        }
        x.house();
        for (int times = 0; times < 3; times++) {
            due(45, "what was kept stays", x.again(), 8);
            x.house();
            due(45, "nobody", x.many(0), 0);
        }
        x.person();
        due(44, "the latest", x.keep(), 1);
        x.person();
        due(45, "the latest", x.again(), 1);
    }

    private static TillPairs fullHouse(int shift) {
        TillPairs x = with(8);
        for (int p = 0; p < 8; p++) {
            for (int q = 0; q < p; q++) {
                x.kin(p, q, (p + q + shift) % 2 == 0);
                x.trust(p, q, (p * q + shift) % 10);
            }
            x.away(p, (p + shift) % 10, true);
        }
        changeDays(x, shift);
        return x;
    }

    private static void changeDays(TillPairs x, int shift) {
        for (int day = 0; day < 10; day++) {
            seat(x, day, (day + shift) % 8, (day + shift + 1) % 8, (day + shift + 2) % 8, (day + shift + 3) % 8);
            x.surprise(day, (day + shift) % 2 == 0);
            x.loss(day, 9 * day + shift);
        }
        for (int law = 0; law < 8; law++) {
            x.set(law, MOST_OF_LAW[law] - shift);
        }
        x.seed(1000 + shift);
    }

    /** All of a house, told by one number for each half, so that no object is asked too often. */
    private static long people(TillPairs x) {
        long sum = 0;
        for (int p = 0; p < 8; p++) {
            for (int q = 0; q < p; q++) {
                sum = sum * 31 + x.kin(p, q, false);
                sum = sum * 31 + x.trust(p, q, 0);
            }
            for (int day = 0; day < 10; day++) {
                sum = sum * 31 + x.away(p, day, false);
            }
        }
        for (int n = 0; n < 4; n++) {
            sum = sum * 31 + x.planOf(n, 0);
            sum = sum * 31 + x.planOf(n, 1);
        }
        return sum;
    }

    private static long theDays(TillPairs x) {
        long sum = 0;
        for (int day = 0; day < 10; day++) {
            for (int post = 0; post < 4; post++) {
                sum = sum * 31 + x.postOf(day, post);
            }
            sum = sum * 31 + x.surprise(day, false);
            sum = sum * 31 + x.loss(day, 0);
        }
        for (int law = 0; law < 8; law++) {
            sum = sum * 31 + x.law(law);
        }
        return sum * 31 + x.seed(0);
    }

    private static void keepAll() {
        TillPairs was = fullHouse(0), x = fullHouse(0);
        for (int n = 0; n < 4; n++) {
            was.plan(n + 1, 50 + n);
            x.plan(n + 1, 50 + n);
        }
        x.keep();
        people(x);
        theDays(x);
        x.again();
        due(45, "people, kin, trust, away and plans", people(x), people(was));
        TillPairs y = fullHouse(0);
        y.keep();
        changeDays(y, 1);
        y.again();
        due(45, "days, laws and z", theDays(y), theDays(was));
        y.house();
        y.again();
        due(45, "days, laws and z, behind another house", theDays(y), theDays(fullHouse(0)));
        TillPairs z = fullHouse(0);
        z.keep();
        z.plan(TURN, 1);
        due(45, "a plan of later", z.again(), 8);
        due(45, "is not any more", z.planOf(0, 0), BAD);
        due(45, "the next is the first", z.plan(DRAW, 2), 0);
    }

    /** What is neither THE HOUSE nor PLANS nor z stays. */
    private static void againLeaves() {
        TillPairs x = with(2);
        x.keep();
        till(x, 9, 0, 1);
        x.plan(COUNTED, 7);
        x.shelf(2, 0, 0);
        x.act(2, TELLS, 1);
        x.prove();
        x.alterRow(0, 1, 55);
        x.sheet(3, INTS, 40);
        x.put(3, 39, 9);
        x.shelf(1, 1, 3);
        feedText(x, "gap 7;");
        due(45, "again", x.again(), 2);
        due(45, "the trace", x.many(5), 11);
        due(45, "its first", x.trace(0), 31);
        due(45, "rows", x.row(9, 0), 1);
        due(45, "an altered row", x.row(0, 1), 55);
        due(45, "sheets", x.item(3, INTS, 39), 9);
        due(45, "a shelf's row", x.taken(1, 12), 40);
        due(45, "the tape", x.many(4), 6);
        due(45, "its text", x.house(), 0);
        due(45, "its text", x.law(GAP), 7);
        due(45, "again behind it", x.again(), 2);
        due(45, "the law that was kept", x.law(GAP), 2);
    }
}
