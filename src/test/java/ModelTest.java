import java.util.Random;

/** All promises: random runs of up to 512 calls, each answer held against NaiveWinter's. */
public final class ModelTest {
    static final long ILLEGAL_ARGUMENT = 1L << 40;
    static final long ILLEGAL_STATE = 1L << 41;
    private static final int RUNS = 3000;
    private static final int CALLS = 512;
    private static final int[] EDGES = {
        -1, -2, 6, 7, 8, 9, 10, 63, 64, 98, 99, 100, 101, 1023, 1024,
        Integer.MIN_VALUE, Integer.MIN_VALUE + 1, Integer.MAX_VALUE, Integer.MAX_VALUE - 1
    };

    private final Due due = new Due();
    private final SaidInWinter x = new SaidInWinter();
    private final NaiveWinter model = new NaiveWinter();
    private final Random random;
    private final boolean isWild;
    private int calls = 0;

    private ModelTest(int run) {
        random = new Random(run);
        isWild = run % 5 == 0;
    }

    public static void main(String[] args) {
        int wrong = 0;
        int empty = 0;
        for (int run = 0; run < RUNS && wrong < 20; run++) {
            ModelTest test = new ModelTest(run);
            test.play(run);
            wrong += test.due.wrong();
            empty += test.model.layers() == 0 ? 1 : 0;
        }
        System.out.println(RUNS + " runs, " + empty + " of them without ice at their end, " + wrong + " answers wrong");
        System.exit(wrong == 0 && empty < RUNS / 2 ? 0 : 1);
    }

    private void play(int run) {
        // the whole lake is told by up to 247 calls: where it is told at the end, the run leaves room for them
        boolean isTold = run % 2 == 0;
        while (calls < CALLS - (isTold ? 290 : 40) && due.wrong() == 0) {
            one();
        }
        if (due.wrong() > 0) {
            System.out.println("that was run " + run + ", call " + calls);
        }
        due.holds("run " + run + " ends with the same lake", !isTold || Due.told(x).equals(told()));
    }

    private String told() {
        StringBuilder all = new StringBuilder();
        all.append(model.winter).append('|');
        for (int c = 0; c < 6; c++) {
            for (NaiveWinter.Ice ice : model.cells.get(c)) {
                all.append(ice.kind() + "," + ice.oath() + "," + ice.winter() + "," + ice.fingers() + ",;");
            }
            all.append('|');
        }
        return all.toString();
    }

    /** Mostly within range, sometimes beside it. */
    private int n(int least, int most) {
        int chance = random.nextInt(isWild ? 4 : 60);
        if (chance == 0) {
            return EDGES[random.nextInt(EDGES.length)];
        }
        return chance == 1 ? random.nextBoolean() ? least : most : least + random.nextInt(most - least + 1);
    }

    private void is(String call, long got, long want) {
        calls++;
        due.is(call, got, want);
    }

    private void one() {
        int what = random.nextInt(100);
        if (what < 30) {
            frozen();
        } else if (what < 36) {
            text();
        } else if (what < 47) {
            changed();
        } else if (what < 80) {
            told(random.nextInt(18));
        } else {
            shelved(random.nextInt(8));
        }
    }

    private void frozen() {
        int d = n(0, 7);
        int k = n(0, 7);
        int oath = random.nextBoolean() ? n(0, 9) : n(0, 2);
        is("keep(" + d + ", 1, " + k + ", " + oath + ")", x.keep(d, 1, k, oath), model.keep(d, 1, k, oath));
        int cell = n(0, 5);
        int frost = n(1, 9);
        is("freeze(" + d + ", " + cell + ", " + frost + ")", x.freeze(d, cell, frost), model.freeze(d, cell, frost));
    }

    private void text() {
        StringBuilder text = new StringBuilder();
        for (int i = random.nextInt(7); i >= 0 && text.length() < 30; i--) {
            switch (random.nextInt(6)) {
                case 0 -> text.append("t").append(1 + random.nextInt(2));
                case 1 -> text.append("c").append(random.nextInt(6)).append(random.nextInt(2))
                    .append(1 + random.nextInt(9));
                case 2 -> text.append("d");
                case 3 -> text.append("w");
                default -> text.append("n").append(random.nextInt(6)).append(random.nextInt(8))
                    .append(random.nextInt(10)).append(1 + random.nextInt(9));
            }
            text.append(';');
        }
        if (random.nextInt(3) == 0) {
            String signs = "ntcdw;0689zA ";
            text.setCharAt(random.nextInt(text.length()), signs.charAt(random.nextInt(signs.length())));
        }
        if (random.nextInt(8) == 0) {
            text.setLength(random.nextInt(text.length()));
        }
        int d = random.nextInt(8);
        is("row", x.row(d, 0, text.length()), model.row(d, 0, text.length()));
        for (int i = 0; i < text.length(); i++) {
            is("put", x.put(d, i, text.charAt(i)), model.put(d, i, text.charAt(i)));
        }
        is("lake of " + text, x.lake(d), model.lake(d));
    }

    private void changed() {
        int a = n(0, 5);
        int b = random.nextInt(4) == 0 ? n(1, 99) : n(1, 9);
        switch (random.nextInt(8)) {
            case 0, 1 -> {
                int days = random.nextInt(10) == 0 ? n(1, 99) : n(1, 2);
                is("thaw(" + days + ")", x.thaw(days), model.thaw(days));
            }
            case 2 -> is("cut(" + a + ", " + b + ")", x.cut(a, b), model.cut(a, b));
            case 3 -> is("drift()", x.drift(), model.drift());
            case 4, 5 -> is("winter()", x.winter(), model.winter());
            case 6 -> is("image()", x.image(), model.image());
            default -> is("restore()", x.restore(), model.restore());
        }
    }

    private void told(int which) {
        int c = n(0, 5);
        int i = n(0, 3);
        int o = n(0, 9);
        int days = random.nextBoolean() ? n(0, 99) : n(0, 9);
        int two = n(0, 1);
        int bits = n(0, 63);
        int what = n(0, 5);
        int k = n(0, 7);
        int oaths = random.nextBoolean() ? n(0, 1023) : 1 << random.nextInt(10) | 1 << random.nextInt(10);
        String on = "(" + c + " " + i + " " + o + " " + days + " " + two + " " + bits + " " + what + " " + k + " " + oaths + ")";
        switch (which) {
            case 0 -> is("layer" + on, x.layer(c, i, what), model.layer(c, i, what));
            case 1 -> is("cell" + on, x.cell(c, two), model.cell(c, two));
            case 2 -> is("holds" + on, x.holds(c), model.holds(c));
            case 3 -> is("latest" + on, x.latest(o), model.latest(o));
            case 4 -> is("seen" + on, x.seen(bits, days), model.seen(bits, days));
            case 5 -> is("holes" + on, x.holes(oaths, days), model.holes(oaths, days));
            case 6 -> is("lasts" + on, x.lasts(c, i), model.lasts(c, i));
            case 7 -> is("frost" + on, x.frost(k, o, days), model.frost(k, o, days));
            case 8 -> is("where" + on, x.where(o, days), model.where(o, days));
            case 9 -> is("thin" + on, x.thin(two), model.thin(two));
            case 10 -> is("spans" + on, x.spans(c, days), model.spans(c, days));
            case 11 -> is("disorder" + on, x.disorder(), model.disorder());
            case 12, 13 -> is("order" + on, x.order(two), model.order(two));
            case 14, 15 -> is("joined" + on, x.joined(c, what), model.joined(c, what));
            case 16 -> {
                int n = n(1, 40);
                int seed = random.nextInt();
                is("seeded(" + n + ", " + seed + ")", x.seeded(n, seed), model.seeded(n, seed));
            }
            default -> is("count" + on, x.count(what), model.count(what));
        }
    }

    private void shelved(int which) {
        int d = n(0, 7);
        int e = n(0, 7);
        int i = random.nextBoolean() ? n(0, 5) : n(0, 99);
        int j = n(0, 5);
        int n = n(0, 8);
        int sort = n(0, 2);
        int v = random.nextBoolean() ? random.nextInt() : n(0, 40);
        String on = "(" + d + " " + e + " " + i + " " + j + " " + n + " " + sort + " " + v + ")";
        switch (which) {
            case 0 -> is("keep" + on, x.keep(d, sort, i, j), model.keep(d, sort, i, j));
            case 1 -> is("row" + on, x.row(d, sort, n), model.row(d, sort, n));
            case 2 -> is("put" + on, x.put(d, i, v), model.put(d, i, v));
            case 3 -> is("element" + on, element(d, i), model.element(d, i));
            case 4 -> is("copy" + on, x.copy(d, i, e, j, n), model.copy(d, i, e, j, n));
            case 5 -> is("toll" + on, x.toll(d), model.toll(d));
            case 6 -> is("toss" + on, x.toss(d), model.toss(d));
            default -> judged(d);
        }
    }

    private void judged(int d) {
        int size = random.nextInt(3) == 0 ? 4 + random.nextInt(4) : 6;
        int sort = random.nextInt(3);
        int[] least = {Byte.MIN_VALUE, Short.MIN_VALUE, Integer.MIN_VALUE};
        is("row", x.row(d, sort, size), model.row(d, sort, size));
        for (int c = 0; c < size; c++) {
            int chance = random.nextInt(12);
            int v = chance == 0 ? least[sort] : chance == 1 ? random.nextInt(9) : c < 6 ? model.cell(c, 1) : 0;
            is("put", x.put(d, c, v), model.put(d, c, v));
        }
        is("judge(" + d + ")", x.judge(d), model.judge(d));
    }

    private long element(int d, int i) {
        try {
            return x.element(d, i);
        } catch (IllegalArgumentException e) {
            return ILLEGAL_ARGUMENT;
        } catch (IllegalStateException e) {
            return ILLEGAL_STATE;
        }
    }
}
