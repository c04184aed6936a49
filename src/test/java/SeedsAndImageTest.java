/** Promises 22 to 26: seeded, judge, image, restore, count. */
public final class SeedsAndImageTest {
    private static final Due due = new Due();

    public static void main(String[] args) {
        seeding();
        judging();
        images();
        counting();
        due.end();
    }

    /** Where each z leads by the told rule; done here with longs, so that no overflow is shared with the class. */
    private static final class Draws {
        private long z;

        Draws(int seed) {
            z = seed & 0xffffffffL;
        }

        int below(int n) {
            z = (z * 1103515245L + 12345L) & 0xffffffffL;
            return (int) ((z & 0x7fffffffL) / 65536 % n);
        }
    }

    /** The same by calls of the face, on an object of its own. */
    private static int playedOut(String text, int n, int seed) {
        SaidInWinter x = Due.lakeOf(text);
        Draws draws = new Draws(seed);
        for (int i = 0; i < n; i++) {
            int what = draws.below(4);
            if (what == 2) {
                x.thaw(1);
            } else if (what == 3) {
                x.winter();
            } else {
                int cell = draws.below(6);
                int kind = draws.below(8);
                int oath = draws.below(10);
                x.keep(0, 1, kind, oath);
                x.freeze(0, cell, draws.below(9) + 1);
            }
        }
        return x.count(2);
    }

    private static void seeding() {
        String[] texts = {"w;", "n0699;n1788;t2;", "n0091;".repeat(8) + "n3091;".repeat(8)};
        int[] seeds = {0, 1, -1, 5, 12345, Integer.MIN_VALUE, Integer.MAX_VALUE, 987654321, -777};
        for (String text : texts) {
            SaidInWinter x = Due.lakeOf(text);
            String before = Due.told(x);
            for (int seed : seeds) {
                for (int n : new int[] {1, 2, 7, 40}) {
                    due.is("22: seeded(" + n + ", " + seed + ") on " + text, x.seeded(n, seed), playedOut(text, n, seed));
                }
            }
            due.holds("22: in mind alone", before.equals(Due.told(x)));
        }
        SaidInWinter x = new SaidInWinter();
        due.is("22: seeded(0, 1)", x.seeded(0, 1), -1);
        due.is("22: seeded(41, 1)", x.seeded(41, 1), -1);
        due.is("22: seeded(-1, 1)", x.seeded(-1, 1), -1);
        SaidInWinter last = Due.lakeOf("w;".repeat(50), "w;".repeat(49), "n0011;");
        due.is("22: no winter above 99", last.seeded(40, 5), playedOut("n0011;", 40, 5));
        due.is("22: the winter stays", last.count(0), 99);
    }

    private static void judging() {
        SaidInWinter x = Due.lakeOf("n0001;n1002;n2003;n3004;n4005;n5699;n5699;n5699;n5699;n5699;n5699;n5699;");
        due.is("23: cell 5 has 133", x.cell(5, 1), 133);
        Due.ints(x, 1, 2, 1, 2, 3, 4, 5, 133);
        due.is("23: all so", x.judge(1), -4);
        x.put(1, 5, 132);
        due.is("23: the last isn't so", x.judge(1), 5);
        x.put(1, 0, 0);
        due.is("23: the first isn't so", x.judge(1), 0);
        x.put(1, 0, Integer.MIN_VALUE);
        x.put(1, 5, Integer.MIN_VALUE);
        due.is("23: skipped ones", x.judge(1), -4);
        x.put(1, 4, -128);
        due.is("23: the least byte among ints", x.judge(1), 4);
        Due.ints(x, 1, 1, 1, -32768, 3, -32768, 5, 133);
        due.is("23: skipped shorts", x.judge(1), -4);
        x.put(1, 1, -128);
        due.is("23: the least byte among shorts", x.judge(1), 1);
        Due.ints(x, 1, 0, 1, -128, 3, 4, 5, 133);
        due.is("23: a byte holds no 133", x.judge(1), 5);
        x.put(1, 5, 128);
        due.is("23: 128 becomes the least byte", x.judge(1), -4);
        Due.ints(x, 1, 0, 1, 2, 3);
        due.is("23: short", x.judge(1), 3);
        x.put(1, 1, 9);
        due.is("23: wrong goes ahead of short", x.judge(1), 1);
        Due.ints(x, 1, 0);
        due.is("23: of none", x.judge(1), 0);
        Due.ints(x, 1, 0, 1, 2, 3, 4, 5, -128, 0);
        due.is("23: long", x.judge(1), 6);
        x.row(1, 2, 100);
        due.is("23: long and wrong", x.judge(1), 0);
        due.is("23: judge(-1)", x.judge(-1), -1);
        due.is("23: judge(8)", x.judge(8), -1);
        due.is("23: judge of nothing", x.judge(2), -11);
        x.keep(2, 1, 3, 3);
        due.is("23: judge of a layer", x.judge(2), -12);
        x.row(2, 2, 6);
        due.is("23: no ice, all 0", new SaidInWinter().judge(2), -11);
        SaidInWinter bare = new SaidInWinter();
        bare.row(2, 2, 6);
        due.is("23: no ice, all 0", bare.judge(2), -4);
    }

    private static void images() {
        SaidInWinter x = Due.lakeOf("n0015;w;n1325;n1122;");
        due.is("25: none yet", x.restore(), -3);
        String first = Due.told(x);
        due.is("24: all ice", x.image(), 18);
        due.holds("24: it changes nothing", first.equals(Due.told(x)));
        x.keep(3, 1, 4, 5);
        Due.ints(x, 4, 2, 77);
        Due.read(x, "w;t3;d;n0019;c012;");
        String second = Due.told(x);
        due.is("25: all ice as it was", x.restore(), 18);
        due.holds("25: all as it was", first.equals(Due.told(x)));
        due.is("25: the shelves stay: a layer", x.toss(3), 105);
        due.is("25: the shelves stay: a row", x.element(4, 0), 77);
        Due.read(x, "w;t3;d;n0019;c012;");
        due.holds("25: the same again", second.equals(Due.told(x)));
        due.is("25: the image is still there", x.restore(), 18);
        due.holds("25: all as it was, again", first.equals(Due.told(x)));
        x.thaw(99);
        due.is("24: another image", x.image(), 0);
        x.keep(3, 1, 4, 5);
        x.freeze(3, 0, 1);
        due.is("25: of no ice", x.restore(), 0);
        due.is("25: no layer", x.count(1), 0);
        SaidInWinter bare = new SaidInWinter();
        due.is("24: of a new one", bare.image(), 0);
        bare.winter();
        due.is("25: of a new one", bare.restore(), 0);
        due.is("25: winter 0", bare.count(0), 0);
    }

    private static void counting() {
        SaidInWinter x = Due.lakeOf("n0014;w;n0395;n4705;n4751;");
        due.is("26: winter", x.count(0), 1);
        due.is("26: layers", x.count(1), 4);
        due.is("26: ice", x.count(2), 4 + 10 + 10 + 2);
        due.is("26: layers one can read", x.count(3), 2);
        due.is("26: oaths", x.count(4), 1 | 2 | 32 | 512);
        due.is("26: the lowest are read, too", Due.lakeOf("n0011;n1011;n1021;").count(3), 3);
        due.is("26: count(-1)", x.count(-1), -1);
        due.is("26: count(5)", x.count(5), -1);
        due.is("26: count of the most", x.count(Integer.MAX_VALUE), -1);
    }
}
