/** Promises 27 to 33, sentence by sentence, where the document names an edge. */
public final class ShelvesEdgeTest {
    private static final Due due = new Due();
    private static final Edges edges = new Edges(due);

    public static void main(String[] args) {
        keepRanges();
        keepOthersDoNotMatter();
        keepInPlaceOfAll();
        rowRanges();
        rowSizes();
        rowBelow0BehindNoSuch();
        row0AtFirst();
        putRefusals();
        putOrder();
        putLowestBits();
        elementNoSuchShelf();
        elementNoRow();
        elementNoSuchPlace();
        elementOrder();
        copyShelves();
        copyNothing();
        copyNoRowsOfOneSort();
        copyPlaces();
        copyOrder();
        copyFull();
        copyWithinOne();
        tollShelves();
        tollSigns();
        tossShelves();
        tossNoFailure();
        tossAnswers();
        lastCall();
        due.end();
    }

    // 27: "-1"; SHELVES 0 .. 7, KINDS 0 .. 7, OATHS 0 .. 9

    private static void keepRanges() {
        edges.range("27: keep on shelf", 0, 7, (x, v) -> x.keep(v, 1, 0, 0));
        edges.range("27: keep nothing on shelf", 0, 7, (x, v) -> x.keep(v, 0, 0, 0));
        edges.range("27: keep what", 0, 1, (x, v) -> x.keep(1, v, 0, 0));
        edges.range("27: keep kind", 0, 7, (x, v) -> x.keep(1, 1, v, 0));
        edges.range("27: keep oath", 0, 9, (x, v) -> x.keep(1, 1, 0, v));
        for (int v : new int[] {-1, 2, 9}) {
            edges.refused("27: no such what, " + v + ", all else as told", -1, x -> x.keep(2, v, 0, 0));
        }
        for (int kind = 0; kind < 8; kind++) {
            for (int oath = 0; oath < 10; oath++) {
                SaidInWinter x = new SaidInWinter();
                due.is("27: 0", x.keep(7, 1, kind, oath), 0);
                x.freeze(7, 5, 9);
                due.is("27: kind " + kind, x.layer(5, 0, 0), kind);
                due.is("27: oath " + oath, x.layer(5, 0, 1), oath);
            }
        }
    }

    // 27: "what = 0 nothing (the others do not matter)"

    private static void keepOthersDoNotMatter() {
        int[] others = {Integer.MIN_VALUE, -1, 0, 7, 8, 9, 10, Integer.MAX_VALUE};
        for (int k : others) {
            for (int oath : others) {
                SaidInWinter x = new SaidInWinter();
                x.keep(2, 1, 3, 3);
                due.is("27: nothing with " + k + " and " + oath, x.keep(2, 0, k, oath), 0);
                due.is("27: nothing is held", x.toll(2), -11);
            }
        }
        edges.refused("27: but the shelf does", -1, x -> x.keep(8, 0, 99, 99));
    }

    private static void keepInPlaceOfAll() {
        SaidInWinter x = Edges.standing();
        due.is("27: a layer in place of a row", x.keep(4, 1, 4, 1), 0);
        due.is("27: it is held", x.toss(4), 101);
        due.is("27: no place of the row", x.put(4, 0, 1), -12);
        due.is("27: no element of the row", Edges.thrown(x, 4, 0), 2);
        due.is("27: nothing in place of a row", x.keep(3, 0, 0, 0), 0);
        due.is("27: nothing is put", x.put(3, 0, 1), -11);
        due.is("27: no element of what was there", Edges.thrown(x, 3, 0), 2);
        due.is("27: a layer in place of a layer", x.keep(1, 1, 4, 2), 0);
        due.is("27: the new one", x.toss(1), 102);
        due.is("27: a row in place of a layer", x.row(1, 2, 2), 0);
        due.is("27: its element", x.element(1, 1), 0);
        due.is("27: a layer again", x.keep(1, 1, 4, 3), 0);
        due.is("27: no element of it", Edges.thrown(x, 1, 0), 2);
        due.is("27: other shelves stay", x.element(2, 1), -8);
    }

    // 28: "-1 (n above 100); -14"; "a SORT (0 bytes, 1 shorts, 2 ints)"

    private static void rowRanges() {
        edges.range("28: row on shelf", 0, 7, (x, v) -> x.row(v, 0, 1));
        edges.range("28: row of sort", 0, 2, (x, v) -> x.row(1, v, 1));
        for (int n : new int[] {101, 102, Integer.MAX_VALUE}) {
            edges.refused("28: above 100: " + n, -1, x -> x.row(2, 0, n));
        }
        for (int n : new int[] {-1, -2, -100, -101, Integer.MIN_VALUE}) {
            edges.refused("28: below 0: " + n, -14, x -> x.row(2, 0, n));
        }
    }

    // 28: "0 .. 100 elements"

    private static void rowSizes() {
        for (int sort = 0; sort < 3; sort++) {
            for (int n = 0; n <= 100; n++) {
                SaidInWinter x = new SaidInWinter();
                due.is("28: " + n + " elements", x.row(5, sort, n), 0);
                due.is("28: a place behind them", Edges.thrown(x, 5, n), 2);
                due.is("28: nothing is put there", x.put(5, n, 1), -13);
                if (n > 0) {
                    due.is("28: the last place", x.put(5, n - 1, 1), 0);
                    due.is("28: the last element", x.element(5, n - 1), 1);
                }
            }
        }
    }

    private static void rowBelow0BehindNoSuch() {
        for (int n : new int[] {-1, Integer.MIN_VALUE}) {
            edges.refused("28: no such shelf, below 0", -1, x -> x.row(8, 0, n));
            edges.refused("28: no such shelf below, below 0", -1, x -> x.row(-1, 0, n));
            edges.refused("28: no such sort, below 0", -1, x -> x.row(2, 3, n));
            edges.refused("28: no such sort below, below 0", -1, x -> x.row(2, -1, n));
        }
    }

    // 28: "0 at first"

    private static void row0AtFirst() {
        for (int sort = 0; sort < 3; sort++) {
            SaidInWinter x = new SaidInWinter();
            x.row(0, 2, 100);
            for (int i = 0; i < 100; i++) {
                x.put(0, i, -1);
            }
            x.row(0, sort, 1);
            x.row(0, sort, 100);
            for (int i = 0; i < 100; i++) {
                due.is("28: element " + i + " at first", x.element(0, i), 0);
            }
        }
    }

    // 29: "-1, -11, -12, -13"

    private static void putRefusals() {
        edges.range("29: put on shelf", 0, 7, (x, v) -> x.put(v, 0, 1));
        edges.refused("29: nothing", -11, x -> x.put(0, 0, 1));
        edges.refused("29: a layer", -12, x -> x.put(1, 0, 1));
        for (int i : new int[] {-1, 3, 100, Integer.MIN_VALUE, Integer.MAX_VALUE}) {
            edges.refused("29: no such place " + i, -13, x -> x.put(2, i, 1));
        }
        edges.refused("29: a row of none", -13, x -> x.put(7, 0, 1));
        SaidInWinter x = new SaidInWinter();
        x.row(0, 2, 100);
        due.is("29: the first place of a hundred", x.put(0, 0, 1), 0);
        due.is("29: the last place of a hundred", x.put(0, 99, 2), 0);
        due.is("29: none behind", x.put(0, 100, 3), -13);
        due.is("29: the first", x.element(0, 0), 1);
        due.is("29: the last", x.element(0, 99), 2);
    }

    private static void putOrder() {
        edges.refused("29: no such shelf, no such place", -1, x -> x.put(8, -1, 1));
        edges.refused("29: nothing, no such place", -11, x -> x.put(0, -1, 1));
        edges.refused("29: a layer, no such place", -12, x -> x.put(1, 100, 1));
    }

    // 29: "what is put in keeps its lowest bits"

    private static void putLowestBits() {
        int[] values = {0, 1, -1, 127, 128, -128, -129, 255, 256, 32767, 32768, -32768, -32769, 65535, 65536, -65536,
            Integer.MAX_VALUE, Integer.MIN_VALUE, 0x12345678, 0x8180};
        for (int v : values) {
            for (int sort = 0; sort < 3; sort++) {
                SaidInWinter x = new SaidInWinter();
                x.row(0, sort, 3);
                due.is("29: put " + v, x.put(0, 1, v), 0);
                long kept = sort == 0 ? (byte) v : sort == 1 ? (short) v : v;
                due.is("29: of " + v + " sort " + sort + " keeps", x.element(0, 1), kept);
                due.is("29: the place ahead of it", x.element(0, 0), 0);
                due.is("29: the place behind it", x.element(0, 2), 0);
            }
        }
    }

    // 30: "IllegalArgumentException: no such SHELF; IllegalStateException: no ROW, no such place"

    private static void throwing(String what, int d, int i, int want) {
        SaidInWinter x = Edges.standing();
        due.is(what, Edges.thrown(x, d, i), want);
        due.holds(what + " changes nothing", Edges.all(x).equals(Edges.all(Edges.standing())));
    }

    private static void elementNoSuchShelf() {
        for (int d : new int[] {-1, 8, Integer.MIN_VALUE, Integer.MAX_VALUE}) {
            throwing("30: shelf " + d, d, 0, 1);
        }
        for (int d = 0; d < 8; d++) {
            SaidInWinter x = new SaidInWinter();
            x.row(d, 2, 1);
            x.put(d, 0, d - 3);
            due.is("30: shelf " + d, x.element(d, 0), d - 3);
        }
    }

    private static void elementNoRow() {
        throwing("30: nothing", 0, 0, 2);
        throwing("30: a layer", 1, 0, 2);
        SaidInWinter x = Edges.standing();
        x.keep(4, 0, 0, 0);
        due.is("30: nothing where a row was", Edges.thrown(x, 4, 0), 2);
        x.keep(3, 1, 0, 0);
        due.is("30: a layer where a row was", Edges.thrown(x, 3, 0), 2);
    }

    private static void elementNoSuchPlace() {
        for (int i : new int[] {-1, 3, 99, 100, Integer.MIN_VALUE, Integer.MAX_VALUE}) {
            throwing("30: place " + i, 2, i, 2);
        }
        throwing("30: a row of none", 7, 0, 2);
        throwing("30: the first place", 2, 0, 0);
        throwing("30: the last place", 2, 2, 0);
        SaidInWinter x = new SaidInWinter();
        x.row(0, 0, 100);
        due.is("30: the last of a hundred", x.element(0, 99), 0);
        due.is("30: none behind", Edges.thrown(x, 0, 100), 2);
    }

    private static void elementOrder() {
        throwing("30: no such shelf, no such place", 8, -1, 1);
        throwing("30: no such shelf below, no such place", -1, 100, 1);
        throwing("30: a layer, no such place", 1, -1, 2);
    }

    // 31: "-1, -11 (either), -12 (no ROWS of one SORT), -13"

    private static SaidInWinter twoRows() {
        SaidInWinter x = new SaidInWinter();
        Due.ints(x, 0, 1, 1, 2, 3, 4, 5);
        Due.ints(x, 1, 1, 10, 20, 30);
        return x;
    }

    private static void copyShelves() {
        edges.range("31: copy from shelf", 0, 7, (x, v) -> x.copy(v, 0, 2, 0, 1));
        edges.range("31: copy to shelf", 0, 7, (x, v) -> x.copy(2, 0, v, 0, 1));
    }

    private static void copyNothing() {
        edges.refused("31: from nothing", -11, x -> x.copy(0, 0, 2, 0, 1));
        edges.refused("31: to nothing", -11, x -> x.copy(2, 0, 0, 0, 1));
        edges.refused("31: from nothing to nothing", -11, x -> x.copy(0, 0, 0, 0, 1));
        edges.refused("31: none from nothing", -11, x -> x.copy(0, 0, 2, 0, 0));
    }

    private static void copyNoRowsOfOneSort() {
        edges.refused("31: from a layer", -12, x -> x.copy(1, 0, 2, 0, 1));
        edges.refused("31: to a layer", -12, x -> x.copy(2, 0, 1, 0, 1));
        edges.refused("31: a layer to a layer", -12, x -> x.copy(1, 0, 6, 0, 1));
        edges.refused("31: a layer to itself", -12, x -> x.copy(1, 0, 1, 0, 1));
        for (int from = 2; from <= 4; from++) {
            for (int to = 2; to <= 4; to++) {
                int d = from;
                int e = to;
                if (d == e) {
                    due.is("31: one sort", Edges.standing().copy(d, 0, e, 1, 1), 1);
                } else {
                    edges.refused("31: sort of " + d + " to that of " + e, -12, x -> x.copy(d, 0, e, 0, 1));
                    edges.refused("31: none of sort of " + d + " to that of " + e, -12, x -> x.copy(d, 0, e, 0, 0));
                }
            }
        }
    }

    // 31: "-13"

    private static void copyPlaces() {
        int[] numbers = {Integer.MIN_VALUE, -1, 0, 1, 2, 3, 4, 5, 6, Integer.MAX_VALUE};
        for (int i : numbers) {
            for (int j : numbers) {
                for (int n : numbers) {
                    boolean isThere = i >= 0 && j >= 0 && n >= 0 && (long) i + n <= 5 && (long) j + n <= 3;
                    String call = "31: copy(0, " + i + ", 1, " + j + ", " + n + ")";
                    if (isThere) {
                        copied(call, i, j, n);
                    } else {
                        edges.refused(call, -13, ShelvesEdgeTest::twoRows, x -> x.copy(0, i, 1, j, n));
                    }
                }
            }
        }
    }

    private static void copied(String call, int i, int j, int n) {
        SaidInWinter x = twoRows();
        due.is(call, x.copy(0, i, 1, j, n), n);
        for (int k = 0; k < 3; k++) {
            int want = k >= j && k < j + n ? i + k - j + 1 : 10 * (k + 1);
            due.is(call + ", element " + k, x.element(1, k), want);
        }
        for (int k = 0; k < 5; k++) {
            due.is(call + ", what was taken stays", x.element(0, k), k + 1);
        }
    }

    private static void copyOrder() {
        edges.refused("31: no such shelf, and nothing", -1, x -> x.copy(0, 0, 8, 0, 1));
        edges.refused("31: nothing, and no such shelf", -1, x -> x.copy(-1, 0, 0, 0, 1));
        edges.refused("31: no such shelf, and a layer", -1, x -> x.copy(1, 0, 8, 0, 1));
        edges.refused("31: no such shelf, no such place", -1, x -> x.copy(8, -1, 2, -1, -1));
        edges.refused("31: nothing, and a layer", -11, x -> x.copy(0, 0, 1, 0, 1));
        edges.refused("31: a layer, and nothing", -11, x -> x.copy(1, 0, 0, 0, 1));
        edges.refused("31: nothing, no such place", -11, x -> x.copy(0, -1, 2, 0, 1));
        edges.refused("31: to nothing, no such place", -11, x -> x.copy(2, 9, 0, 0, 1));
        edges.refused("31: a layer, no such place", -12, x -> x.copy(1, -1, 2, 0, 1));
        edges.refused("31: to a layer, no such place", -12, x -> x.copy(2, 9, 1, 0, 1));
        edges.refused("31: two sorts, no such place", -12, x -> x.copy(2, 9, 3, 0, 1));
        edges.refused("31: two sorts, below 0", -12, x -> x.copy(2, 0, 3, 0, -1));
    }

    private static void copyFull() {
        SaidInWinter x = new SaidInWinter();
        x.row(0, 2, 100);
        x.row(7, 2, 100);
        for (int i = 0; i < 100; i++) {
            x.put(0, i, i + 1);
        }
        due.is("31: a hundred", x.copy(0, 0, 7, 0, 100), 100);
        due.is("31: the first", x.element(7, 0), 1);
        due.is("31: the last", x.element(7, 99), 100);
        due.is("31: more than a hundred", x.copy(0, 0, 7, 0, 101), -13);
        due.is("31: the last to the first", x.copy(0, 99, 7, 0, 1), 1);
        due.is("31: it is", x.element(7, 0), 100);
        SaidInWinter y = new SaidInWinter();
        y.row(0, 2, 0);
        y.row(1, 2, 0);
        due.is("31: none of none", y.copy(0, 0, 1, 0, 0), 0);
        due.is("31: one of none", y.copy(0, 0, 1, 0, 1), -13);
        due.is("31: behind none", y.copy(0, 1, 1, 0, 0), -13);
    }

    private static void copyWithinOne() {
        for (int i = 0; i <= 5; i++) {
            for (int j = 0; j <= 5; j++) {
                for (int n = 0; n <= 5 - Math.max(i, j); n++) {
                    SaidInWinter x = twoRows();
                    String call = "31: copy(0, " + i + ", 0, " + j + ", " + n + ")";
                    due.is(call, x.copy(0, i, 0, j, n), n);
                    for (int k = 0; k < 5; k++) {
                        due.is(call + ", element " + k, x.element(0, k), (k >= j && k < j + n ? i + k - j : k) + 1);
                    }
                }
            }
        }
        edges.refused("31: too many within one", -13, ShelvesEdgeTest::twoRows, x -> x.copy(0, 1, 0, 0, 5));
        edges.refused("31: to beyond within one", -13, ShelvesEdgeTest::twoRows, x -> x.copy(0, 0, 0, 1, 5));
    }

    // 32: "-1, -11, -12 (a ROW)"

    private static void tollShelves() {
        edges.range("32: toll of shelf", 0, 7, SaidInWinter::toll);
        edges.refused("32: nothing", -11, x -> x.toll(0));
        for (int d : new int[] {2, 3, 4, 5, 7}) {
            edges.refused("32: a row on " + d, -12, x -> x.toll(d));
        }
        edges.tellsAlone("32: toll", x -> x.toll(1));
    }

    private static void tollSigns() {
        for (int oath = 0; oath < 10; oath++) {
            int[] tolls = {3, 3 + oath, 3 * (oath + 1), 2, 2 * (3 + oath), 6, 10 + oath, 2 - oath};
            for (int kind = 0; kind < 8; kind++) {
                SaidInWinter x = new SaidInWinter();
                x.keep(0, 1, kind, oath);
                due.is("32: kind " + kind + ", oath " + oath, x.toll(0), tolls[kind]);
            }
        }
    }

    // 33: "-1, -11, -12 (a ROW)"

    private static void tossShelves() {
        edges.range("33: toss of shelf", 0, 7, SaidInWinter::toss);
        edges.refused("33: nothing", -11, x -> x.toss(0));
        for (int d : new int[] {2, 3, 4, 5, 7}) {
            edges.refused("33: a row on " + d, -12, x -> x.toss(d));
        }
        edges.tellsAlone("33: toss", x -> x.toss(1));
    }

    private static int tossed(int kind, int oath) {
        SaidInWinter x = new SaidInWinter();
        x.keep(0, 1, kind, oath);
        return x.toss(0);
    }

    // 33: "-15: FORGED ones, and any with OATH 0, have none"

    private static void tossNoFailure() {
        for (int kind = 0; kind < 8; kind++) {
            due.is("33: kind " + kind + " with 0", tossed(kind, 0), -15);
        }
        for (int oath = 0; oath < 10; oath++) {
            due.is("33: forged with " + oath, tossed(2, oath), -15);
        }
        edges.refused("33: forged with 0", -15, x -> x.toss(6));
    }

    // 33: "its OATH; of BUBBLY ones 100 more; of SALT ones 200 plus their TOLL"

    private static void tossAnswers() {
        for (int oath = 1; oath < 10; oath++) {
            for (int kind : new int[] {0, 1, 3, 6, 7}) {
                due.is("33: kind " + kind + " with " + oath, tossed(kind, oath), oath);
            }
            due.is("33: bubbly with " + oath, tossed(4, oath), 100 + oath);
            due.is("33: salt with " + oath, tossed(5, oath), 206);
        }
    }

    // "An object is used for at most 512 calls": the last of them answers as the first

    private static void lastCall() {
        SaidInWinter x = new SaidInWinter();
        x.keep(0, 1, 5, 9);
        for (int call = 2; call <= 512; call++) {
            due.is("33: call " + call, x.toss(0), 206);
        }
        SaidInWinter y = new SaidInWinter();
        for (int call = 1; call < 512; call++) {
            due.is("28: call " + call, y.row(call % 8, call % 3, 100), 0);
        }
        due.is("29: call 512", y.put(7, 99, 1), 0);
    }
}
