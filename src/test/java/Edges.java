import java.util.function.Supplier;

/** What the edge tests share: ranges with both their sides, refusals behind which all is as it was. */
final class Edges {
    /** A call, and a call of one number. */
    interface Call {
        long on(SaidInWinter x);
    }

    interface CallWith {
        long on(SaidInWinter x, int v);
    }

    private final Due due;

    Edges(Due due) {
        this.due = due;
    }

    /**
     * Something of all: CELL 0 is full of all KINDS, CELL 2 and 3 have ice of two WINTERS, 1, 4 and 5 none; an IMAGE of
     * another lake; SHELF 0 holds nothing, 1 and 6 a layer, 2, 3 and 4 a ROW of each SORT, 5 a LAKE, 7 a ROW of none.
     */
    static SaidInWinter standing() {
        SaidInWinter x = new SaidInWinter();
        freeze(x, 4, 0, 2, 6);
        freeze(x, 5, 6, 9, 9);
        x.image();
        x.cut(4, 99);
        x.cut(5, 99);
        for (int kind = 0; kind < 8; kind++) {
            freeze(x, 0, kind, kind + 1, 8 - kind);
        }
        freeze(x, 2, 3, 3, 2);
        x.winter();
        freeze(x, 2, 0, 5, 4);
        freeze(x, 3, 1, 9, 1);
        x.keep(0, 0, 0, 0);
        x.keep(1, 1, 6, 4);
        Due.ints(x, 2, 0, 7, -8, 9);
        Due.ints(x, 3, 1, 300, -300);
        Due.ints(x, 4, 2, 70000, -70000);
        Due.text(x, 5, "w;n1019;");
        x.keep(6, 1, 2, 0);
        x.row(7, 0, 0);
        return x;
    }

    /** One layer more, by way of SHELF 0. */
    static int freeze(SaidInWinter x, int cell, int kind, int oath, int frost) {
        x.keep(0, 1, kind, oath);
        return x.freeze(0, cell, frost);
    }

    /** The same layer so many times. */
    static SaidInWinter piled(int many, int cell, int kind, int oath, int frost) {
        SaidInWinter x = new SaidInWinter();
        x.keep(0, 1, kind, oath);
        for (int i = 0; i < many; i++) {
            x.freeze(0, cell, frost);
        }
        return x;
    }

    /** All that an object holds, its IMAGE and SHELVES too, as one text. The object is of no use behind it. */
    static String all(SaidInWinter x) {
        StringBuilder all = new StringBuilder(Due.told(x));
        x.cut(0, 99);
        x.cut(0, 99);
        for (int d = 0; d < 8; d++) {
            all.append(" shelf ").append(d).append(": ");
            int toll = x.toll(d);
            if (toll == -11) {
                all.append("nothing");
            } else if (toll == -12) {
                row(x, d, all);
            } else {
                x.freeze(d, 0, 9);
                all.append(x.layer(0, 0, 0)).append(',').append(x.layer(0, 0, 1));
                x.cut(0, 99);
            }
        }
        return all.append(" image: ").append(x.restore()).append(Due.told(x)).toString();
    }

    /** The SORT is told by the bits that a 65536 + 256 + 1 leaves, of a ROW of none by what can be copied to it. */
    private static void row(SaidInWinter x, int d, StringBuilder all) {
        int size = 0;
        while (thrown(x, d, size) == 0) {
            all.append(x.element(d, size)).append(',');
            size++;
        }
        if (size > 0) {
            x.put(d, 0, 65536 + 256 + 1);
            all.append("sort by ").append(x.element(d, 0));
        }
        for (int sort = 0; size == 0 && d > 0 && sort < 3; sort++) {
            x.row(d - 1, sort, 0);
            all.append("as ").append(sort).append(": ").append(x.copy(d - 1, 0, d, 0, 0)).append(',');
        }
    }

    /** 1 IllegalArgumentException, 2 IllegalStateException, 0 an answer. */
    static int thrown(SaidInWinter x, int d, int i) {
        try {
            x.element(d, i);
            return 0;
        } catch (IllegalArgumentException e) {
            return 1;
        } catch (IllegalStateException e) {
            return 2;
        }
    }

    /** A refused call changes nothing. */
    void refused(String call, long want, Supplier<SaidInWinter> fresh, Call c) {
        SaidInWinter x = fresh.get();
        due.is(call, c.on(x), want);
        due.holds(call + " changes nothing", all(x).equals(all(fresh.get())));
    }

    void refused(String call, long want, Call c) {
        refused(call, want, Edges::standing, c);
    }

    /** The last that is taken and the first that is refused with -1, on either side; all between are taken, too. */
    void range(String call, int least, int most, Supplier<SaidInWinter> fresh, CallWith c) {
        for (int v = least; v <= most; v++) {
            due.holds(call + " takes " + v, c.on(fresh.get(), v) != -1);
        }
        for (int v : new int[] {least - 1, most + 1, Integer.MIN_VALUE, Integer.MAX_VALUE}) {
            refused(call + " of " + v, -1, fresh, x -> c.on(x, v));
        }
    }

    void range(String call, int least, int most, CallWith c) {
        range(call, least, most, Edges::standing, c);
    }

    /** A call that only tells something leaves all as it is. */
    void tellsAlone(String call, Supplier<SaidInWinter> fresh, Call c) {
        SaidInWinter x = fresh.get();
        c.on(x);
        due.holds(call + " only tells", all(x).equals(all(fresh.get())));
    }

    void tellsAlone(String call, Call c) {
        tellsAlone(call, Edges::standing, c);
    }
}
