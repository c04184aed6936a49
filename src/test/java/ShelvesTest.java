/** Promises 27 to 33: keep, row, put, element, copy, toll, toss. */
public final class ShelvesTest {
    private static final Due due = new Due();

    public static void main(String[] args) {
        keeping();
        rows();
        putting();
        elements();
        copying();
        tolls();
        tosses();
        due.end();
    }

    private static void keeping() {
        SaidInWinter x = new SaidInWinter();
        for (int d = 0; d < 8; d++) {
            due.is("27: keep a layer", x.keep(d, 1, d, d + 2), 0);
            x.freeze(d, 0, 1);
            due.is("27: its kind", x.layer(0, d, 0), d);
            due.is("27: its oath", x.layer(0, d, 1), d + 2);
        }
        due.is("27: nothing, whatever the others are", x.keep(3, 0, -9, 99), 0);
        due.is("27: nothing is held", x.toll(3), -11);
        due.is("27: keep(-1, 0, 0, 0)", x.keep(-1, 0, 0, 0), -1);
        due.is("27: keep(8, 1, 0, 0)", x.keep(8, 1, 0, 0), -1);
        due.is("27: keep(4, 2, 0, 0)", x.keep(4, 2, 0, 0), -1);
        due.is("27: keep(4, -1, 0, 0)", x.keep(4, -1, 0, 0), -1);
        due.is("27: keep(4, 1, -1, 0)", x.keep(4, 1, -1, 0), -1);
        due.is("27: keep(4, 1, 8, 0)", x.keep(4, 1, 8, 0), -1);
        due.is("27: keep(4, 1, 0, -1)", x.keep(4, 1, 0, -1), -1);
        due.is("27: keep(4, 1, 0, 10)", x.keep(4, 1, 0, 10), -1);
        due.is("27: refused it stays", x.toss(4), 106);
        x.row(5, 0, 1);
        due.is("27: a layer in place of a row", x.keep(5, 1, 0, 1), 0);
        due.is("27: no row any more", x.put(5, 0, 0), -12);
    }

    private static void rows() {
        SaidInWinter x = new SaidInWinter();
        due.is("28: a row of none", x.row(0, 0, 0), 0);
        due.is("28: it has no place", x.put(0, 0, 1), -13);
        due.is("28: a row of 100", x.row(0, 2, 100), 0);
        for (int i = 0; i < 100; i++) {
            due.is("28: an element at first", x.element(0, i), 0);
            x.put(0, i, i + 1);
        }
        due.is("28: no place 100", x.put(0, 100, 1), -13);
        due.is("28: -1 above 100", x.row(0, 2, 101), -1);
        due.is("28: -14 below 0", x.row(0, 2, -1), -14);
        due.is("28: -14 far below 0", x.row(0, 2, Integer.MIN_VALUE), -14);
        due.is("28: no such sort", x.row(0, 3, 1), -1);
        due.is("28: no such sort below", x.row(0, -1, 1), -1);
        due.is("28: no such shelf", x.row(8, 0, 1), -1);
        due.is("28: no such shelf below", x.row(-1, 0, 1), -1);
        due.is("28: -1 goes ahead of -14", x.row(8, 0, -1), -1);
        due.is("28: for the sort, too", x.row(0, 3, -1), -1);
        due.is("28: refused it stays", x.element(0, 99), 100);
        x.row(0, 2, 50);
        due.is("28: a new row is of 0", x.element(0, 49), 0);
        due.is("28: and shorter", x.put(0, 50, 1), -13);
        x.row(0, 2, 100);
        due.is("28: nothing of the old one is left", x.element(0, 99), 0);
        x.keep(1, 1, 2, 3);
        due.is("28: in place of a layer", x.row(1, 1, 1), 0);
        due.is("28: no layer any more", x.toll(1), -12);
    }

    private static void kept(int sort, int v, long element) {
        SaidInWinter x = new SaidInWinter();
        x.row(6, sort, 2);
        due.is("29: put " + v, x.put(6, 1, v), 0);
        due.is("29: sort " + sort + " keeps of " + v, x.element(6, 1), element);
        due.is("29: the other stays", x.element(6, 0), 0);
    }

    private static void putting() {
        kept(0, 127, 127);
        kept(0, 128, -128);
        kept(0, 255, -1);
        kept(0, 256, 0);
        kept(0, -129, 127);
        kept(0, Integer.MIN_VALUE, 0);
        kept(1, 32767, 32767);
        kept(1, 32768, -32768);
        kept(1, 65535, -1);
        kept(1, 65536, 0);
        kept(1, -32769, 32767);
        kept(2, Integer.MAX_VALUE, Integer.MAX_VALUE);
        kept(2, Integer.MIN_VALUE, Integer.MIN_VALUE);
        SaidInWinter x = new SaidInWinter();
        due.is("29: put(-1, 0, 0)", x.put(-1, 0, 0), -1);
        due.is("29: put(8, 0, 0)", x.put(8, 0, 0), -1);
        due.is("29: into nothing", x.put(0, 0, 0), -11);
        x.keep(0, 1, 0, 0);
        due.is("29: into a layer", x.put(0, -1, 0), -12);
        x.row(0, 0, 3);
        due.is("29: at -1", x.put(0, -1, 0), -13);
        due.is("29: at the size", x.put(0, 3, 0), -13);
        due.is("29: at the most", x.put(0, Integer.MAX_VALUE, 0), -13);
    }

    /** 1 IllegalArgumentException, 2 IllegalStateException, 0 an answer. */
    private static int thrown(SaidInWinter x, int d, int i) {
        try {
            x.element(d, i);
            return 0;
        } catch (IllegalArgumentException e) {
            return 1;
        } catch (IllegalStateException e) {
            return 2;
        }
    }

    private static void elements() {
        SaidInWinter x = new SaidInWinter();
        Due.ints(x, 0, 2, 5, 6, 7);
        due.is("30: element(0, 0)", x.element(0, 0), 5);
        due.is("30: element(0, 2)", x.element(0, 2), 7);
        due.is("30: at the size", thrown(x, 0, 3), 2);
        due.is("30: at -1", thrown(x, 0, -1), 2);
        due.is("30: at the least", thrown(x, 0, Integer.MIN_VALUE), 2);
        due.is("30: shelf -1", thrown(x, -1, 0), 1);
        due.is("30: shelf 8", thrown(x, 8, -1), 1);
        due.is("30: of nothing", thrown(x, 1, 0), 2);
        x.keep(1, 1, 0, 0);
        due.is("30: of a layer", thrown(x, 1, 0), 2);
    }

    private static void copying() {
        SaidInWinter x = new SaidInWinter();
        Due.ints(x, 0, 1, 1, 2, 3, 4, 5);
        Due.ints(x, 1, 1, 9, 9, 9);
        due.is("31: two", x.copy(0, 1, 1, 0, 2), 2);
        due.is("31: the first", x.element(1, 0), 2);
        due.is("31: the second", x.element(1, 1), 3);
        due.is("31: no third", x.element(1, 2), 9);
        due.is("31: the source stays", x.element(0, 1), 2);
        due.is("31: within one, upwards", x.copy(0, 0, 0, 1, 4), 4);
        for (int i = 0; i < 5; i++) {
            due.is("31: upwards, element " + i, x.element(0, i), i == 0 ? 1 : i);
        }
        Due.ints(x, 0, 1, 1, 2, 3, 4, 5);
        due.is("31: within one, downwards", x.copy(0, 1, 0, 0, 4), 4);
        for (int i = 0; i < 5; i++) {
            due.is("31: downwards, element " + i, x.element(0, i), i == 4 ? 5 : i + 2);
        }
        due.is("31: none", x.copy(0, 5, 1, 3, 0), 0);
        due.is("31: none from beyond", x.copy(0, 6, 1, 3, 0), -13);
        due.is("31: none to beyond", x.copy(0, 5, 1, 4, 0), -13);
        due.is("31: too many of one", x.copy(0, 3, 1, 0, 3), -13);
        due.is("31: too many for the other", x.copy(0, 0, 1, 1, 3), -13);
        due.is("31: from -1", x.copy(0, -1, 1, 0, 1), -13);
        due.is("31: to -1", x.copy(0, 0, 1, -1, 1), -13);
        due.is("31: -1 of them", x.copy(0, 1, 1, 1, -1), -13);
        due.is("31: the most of them", x.copy(0, 1, 1, 1, Integer.MAX_VALUE), -13);
        due.is("31: from the most", x.copy(0, Integer.MAX_VALUE, 1, 1, 1), -13);
        due.is("31: no such shelf", x.copy(8, 0, 1, 0, 1), -1);
        due.is("31: no such other", x.copy(0, 0, -1, 0, 1), -1);
        due.is("31: nothing to take", x.copy(2, 0, 1, 0, 1), -11);
        due.is("31: nothing to come to", x.copy(0, 0, 2, 0, 1), -11);
        x.keep(3, 1, 0, 0);
        due.is("31: -11 goes ahead of -12", x.copy(3, 0, 2, 0, 1), -11);
        due.is("31: the other way, too", x.copy(2, 0, 3, 0, 1), -11);
        due.is("31: a layer", x.copy(3, 0, 1, 0, 1), -12);
        due.is("31: to a layer", x.copy(1, 0, 3, 0, 1), -12);
        x.row(4, 0, 5);
        due.is("31: a layer, and bytes", x.copy(3, 0, 4, 0, 1), -12);
        due.is("31: bytes, and a layer", x.copy(4, 0, 3, 0, 1), -12);
        x.row(4, 2, 5);
        due.is("31: another sort", x.copy(1, 0, 4, 0, 9), -12);
    }

    private static void toll(int kind, int of0, int of4, int of9) {
        SaidInWinter x = new SaidInWinter();
        int[] oaths = {0, 4, 9};
        int[] tolls = {of0, of4, of9};
        for (int i = 0; i < 3; i++) {
            x.keep(5, 1, kind, oaths[i]);
            due.is("32: kind " + kind + " oath " + oaths[i], x.toll(5), tolls[i]);
        }
    }

    private static void tolls() {
        toll(0, 3, 3, 3);
        toll(1, 3, 7, 12);
        toll(2, 3, 15, 30);
        toll(3, 2, 2, 2);
        toll(4, 6, 14, 24);
        toll(5, 6, 6, 6);
        toll(6, 10, 14, 19);
        toll(7, 2, -2, -7);
        SaidInWinter x = new SaidInWinter();
        due.is("32: toll(-1)", x.toll(-1), -1);
        due.is("32: toll(8)", x.toll(8), -1);
        due.is("32: of nothing", x.toll(0), -11);
        x.row(0, 2, 0);
        due.is("32: of a row", x.toll(0), -12);
    }

    private static void toss(int kind, int of0, int of1, int of9) {
        SaidInWinter x = new SaidInWinter();
        int[] oaths = {0, 1, 9};
        int[] answers = {of0, of1, of9};
        for (int i = 0; i < 3; i++) {
            x.keep(5, 1, kind, oaths[i]);
            due.is("33: kind " + kind + " oath " + oaths[i], x.toss(5), answers[i]);
            due.is("33: it stays on the shelf", x.toss(5), answers[i]);
        }
    }

    private static void tosses() {
        toss(0, -15, 1, 9);
        toss(1, -15, 1, 9);
        toss(2, -15, -15, -15);
        toss(3, -15, 1, 9);
        toss(4, -15, 101, 109);
        toss(5, -15, 206, 206);
        toss(6, -15, 1, 9);
        toss(7, -15, 1, 9);
        SaidInWinter x = new SaidInWinter();
        due.is("33: toss(-1)", x.toss(-1), -1);
        due.is("33: toss(8)", x.toss(8), -1);
        due.is("33: of nothing", x.toss(0), -11);
        x.row(0, 2, 0);
        due.is("33: of a row", x.toss(0), -12);
    }
}
