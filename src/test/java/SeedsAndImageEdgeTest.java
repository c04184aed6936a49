/** Promises 22 to 26, sentence by sentence, where the document names an edge. */
public final class SeedsAndImageEdgeTest {
    private static final Due due = new Due();
    private static final Edges edges = new Edges(due);

    public static void main(String[] args) {
        seededRange();
        seededKnownOnes();
        seededWithoutSignBit();
        seededGreatestDraws();
        seededNoRoom();
        seededWarmDay();
        seededWinterNotAbove99();
        seededInMind();
        judgeShelves();
        judgeFirstThatIsNotSo();
        judgeLeastNumberSkipped();
        judgeShort();
        judgeLong();
        judgeLowestBits();
        imageOfNothing();
        imageTwice();
        imageButShelves();
        imageIsNoRestoredLake();
        restoreNone();
        restoreShelvesStay();
        restoreAgain();
        countRange();
        countEmptyAndFull();
        due.end();
    }

    // 22: "n times (1 .. 40) with a seed z"; "-1"

    private static void seededRange() {
        edges.range("22: seeded so many times", 1, 40, (x, v) -> x.seeded(v, 5));
        for (int z : new int[] {Integer.MIN_VALUE, -1, 0, 1, Integer.MAX_VALUE}) {
            due.holds("22: any seed, " + z, new SaidInWinter().seeded(1, z) >= 0);
            edges.refused("22: never with seed " + z, -1, x -> x.seeded(0, z));
            edges.refused("22: 41 times with seed " + z, -1, x -> x.seeded(41, z));
        }
    }

    private static void seeded(int n, int z, int ice) {
        due.is("22: seeded(" + n + ", " + z + ")", new SaidInWinter().seeded(n, z), ice);
    }

    /** Told by another program's draws, on a lake without ice. */
    private static void seededKnownOnes() {
        int[] seeds = {0, 1, -1, 2, 3, 4, 5, 6, 7, 8, 100, -100};
        int[] once = {8, 0, 11, 16, 0, 18, 0, 0, 7, 0, 0, 14};
        int[] twice = {8, 0, 10, 16, 0, 31, 17, 0, 19, 4, 8, 15};
        int[] fortyTimes = {44, 50, 61, 112, 69, 65, 110, 47, 89, 27, 61, 89};
        for (int i = 0; i < seeds.length; i++) {
            seeded(1, seeds[i], once[i]);
            seeded(2, seeds[i], twice[i]);
            seeded(40, seeds[i], fortyTimes[i]);
        }
    }

    // 22: "z without its sign's bit over 65536, cut"; "(an int)"

    private static void seededWithoutSignBit() {
        seeded(40, Integer.MIN_VALUE, 44);
        seeded(40, Integer.MAX_VALUE, 61);
        for (int z = -1000; z < 1000; z += 37) {
            int other = z ^ Integer.MIN_VALUE;
            due.is("22: the sign's bit of " + z, new SaidInWinter().seeded(40, z), new SaidInWinter().seeded(40, other));
        }
    }

    // 22: "a DRAW below 6", "8", "10", "9, and 1": the least and the greatest of each

    private static void seededGreatestDraws() {
        seeded(1, -19991, 4);   // cell 2, clear, oath 0, frost 3
        seeded(1, -19976, 16);  // cell 1, cracked, oath 7, frost 8
        seeded(1, -19995, 1);   // cell 3, forged, oath 8, frost 1
        seeded(1, -19981, 4);   // cell 4, forged, oath 3, frost 9
        seeded(1, -18869, 19);  // cell 2, black, oath 9, frost 9
        seeded(1, -19863, 4);   // cell 5, cracked, oath 2, frost 2
        seeded(1, -19998, 3);   // cell 0, plain, oath 3, frost 3
        // where cell 0 or cell 5 is full, just what comes to others is more
        due.is("22: cell 5 it is", Edges.piled(8, 5, 0, 0, 1).seeded(1, -19863), 8);
        due.is("22: not cell 4", Edges.piled(8, 4, 0, 0, 1).seeded(1, -19863), 12);
        due.is("22: cell 0 it is", Edges.piled(8, 0, 0, 0, 1).seeded(1, -19998), 8);
        due.is("22: not cell 1", Edges.piled(8, 1, 0, 0, 1).seeded(1, -19998), 11);
    }

    // 22: "no room: nothing"

    private static SaidInWinter full(int frost) {
        SaidInWinter x = new SaidInWinter();
        x.keep(0, 1, 0, 0);
        for (int i = 0; i < 48; i++) {
            x.freeze(0, i % 6, frost);
        }
        return x;
    }

    private static void seededNoRoom() {
        due.is("22: a layer where all is full", full(9).seeded(1, 0), 48 * 9);
        due.is("22: seven layers in its cell", Edges.piled(7, 0, 0, 0, 1).seeded(1, 0), 7 + 8);
        due.is("22: eight layers in its cell", Edges.piled(8, 0, 0, 0, 1).seeded(1, 0), 8);
        // the second time of seed 4 draws what it drew, though the first layer had no room: 31 less 18
        due.is("22: the draws are drawn all the same", Edges.piled(8, 4, 0, 0, 1).seeded(2, 4), 8 + 31 - 18);
    }

    // 22: "2 a WARM DAY"

    private static void seededWarmDay() {
        due.is("22: one warm day of no ice", new SaidInWinter().seeded(1, 1), 0);
        due.is("22: one warm day of all cells", full(9).seeded(1, 1), 48 * 9 - 6 * 2);
        due.is("22: layers that are no more", full(1).seeded(1, 1), 42);
    }

    // 22: "3 a NEW WINTER (not above 99)"

    private static void seededWinterNotAbove99() {
        SaidInWinter x = full(9);
        for (int i = 0; i < 99; i++) {
            x.winter();
        }
        due.is("22: no winter above 99", x.seeded(1, 3), 48 * 9);
        due.is("22: what comes behind it comes", x.seeded(40, 3), full(9).seeded(40, 3));
        due.is("22: winter 99 stays", x.count(0), 99);
    }

    // 22: "in mind"; 23: a call that tells

    private static void seededInMind() {
        for (int z = 0; z < 8; z++) {
            int seed = z;
            edges.tellsAlone("22: seeded with " + z, x -> x.seeded(40, seed));
        }
        SaidInWinter x = Edges.standing();
        due.is("22: the same again", x.seeded(40, 5), x.seeded(40, 5));
        edges.tellsAlone("23: judge", other -> other.judge(4));
    }

    // 23: "-1, -11, -12 (no ROW)"

    private static void judgeShelves() {
        edges.range("23: judge by shelf", 0, 7, SaidInWinter::judge);
        edges.refused("23: nothing", -11, x -> x.judge(0));
        edges.refused("23: a layer", -12, x -> x.judge(1));
        edges.refused("23: a layer with 0", -12, x -> x.judge(6));
        for (int sort = 0; sort < 3; sort++) {
            SaidInWinter x = new SaidInWinter();
            x.row(3, sort, 6);
            due.is("23: a row of sort " + sort, x.judge(3), -4);
        }
    }

    private static int judged(String lake, int sort, int... values) {
        SaidInWinter x = Due.lakeOf(lake);
        Due.ints(x, 7, sort, values);
        return x.judge(7);
    }

    // 23: "ICE of CELLS 0, 1, ..: the first that isn't so"; "-4"

    private static void judgeFirstThatIsNotSo() {
        String lake = "n0001;n1002;n2003;n3004;n4005;n5006;";
        for (int sort = 0; sort < 3; sort++) {
            due.is("23: all so", judged(lake, sort, 1, 2, 3, 4, 5, 6), -4);
            for (int c = 0; c < 6; c++) {
                for (int beside = -1; beside <= 1; beside += 2) {
                    int[] values = {1, 2, 3, 4, 5, 6};
                    values[c] += beside;
                    due.is("23: cell " + c + " isn't so", judged(lake, sort, values), c);
                    values[5] = 9;
                    due.is("23: cell " + c + " is the first", judged(lake, sort, values), c);
                }
            }
        }
        due.is("23: no ice, as told", judged("w;", 2, 0, 0, 0, 0, 0, 0), -4);
        due.is("23: no ice, not as told", judged("w;", 2, 0, 0, 0, 0, 0, 1), 5);
    }

    // 23: "the least number of the SORT is skipped"

    private static void judgeLeastNumberSkipped() {
        int[] least = {-128, -32768, Integer.MIN_VALUE};
        for (int sort = 0; sort < 3; sort++) {
            int l = least[sort];
            due.is("23: all are skipped", judged("n0001;", sort, l, l, l, l, l, l), -4);
            due.is("23: the next number isn't", judged("n0001;", sort, l + 1, l, l, l, l, l), 0);
            due.is("23: the first is skipped", judged("n0001;", sort, l, 1, 0, 0, 0, 0), 1);
            due.is("23: the last is skipped", judged("n0001;", sort, 1, 0, 0, 0, 0, l), -4);
            due.is("23: skipped, short", judged("n0001;", sort, l, l, l, l, l), 5);
            due.is("23: skipped, long", judged("n0001;", sort, l, l, l, l, l, l, l), 6);
        }
        due.is("23: the least byte among shorts", judged("w;", 1, 0, 0, -128, 0, 0, 0), 2);
        due.is("23: the least byte among ints", judged("w;", 2, 0, 0, -128, 0, 0, 0), 2);
        due.is("23: the least short among ints", judged("w;", 2, 0, 0, -32768, 0, 0, 0), 2);
        due.is("23: the greatest byte", judged("w;", 0, 0, 0, 127, 0, 0, 0), 2);
    }

    // 23: "the size, if it is short"

    private static void judgeShort() {
        for (int size = 0; size < 6; size++) {
            due.is("23: short, size " + size, judged("w;", 2, new int[size]), size);
            if (size > 0) {
                int[] values = new int[size];
                values[size - 1] = 1;
                due.is("23: its last isn't so, size " + size, judged("w;", 2, values), size - 1);
            }
        }
        due.is("23: what lies in cells behind it does not matter", judged("n5009;n3009;", 2, 0, 0, 0), 3);
    }

    // 23: "6, if it is long"

    private static void judgeLong() {
        for (int size : new int[] {7, 8, 99, 100}) {
            int[] values = new int[size];
            due.is("23: long, size " + size, judged("w;", 1, values), 6);
            values[size - 1] = 77;
            due.is("23: what stands behind 6 does not matter, size " + size, judged("w;", 1, values), 6);
            values[5] = 77;
            due.is("23: its sixth isn't so, size " + size, judged("w;", 1, values), 5);
        }
    }

    // 23 with "what is put in keeps its lowest bits"

    private static void judgeLowestBits() {
        SaidInWinter x = Edges.piled(7, 0, 6, 9, 8);
        due.is("23: 126 fingers", x.cell(0, 1), 126);
        Edges.freeze(x, 0, 0, 0, 1);
        Due.ints(x, 1, 0, 127, 0, 0, 0, 0, 0);
        due.is("23: the greatest byte is so", x.judge(1), -4);
        SaidInWinter y = Edges.piled(7, 0, 6, 9, 8);
        Edges.freeze(y, 0, 0, 0, 3);
        Due.ints(y, 1, 0, 129, 0, 0, 0, 0, 0);
        due.is("23: a byte can't tell 129", y.judge(1), 0);
        Due.ints(y, 1, 1, 129 + 65536, 0, 0, 0, 0, 0);
        due.is("23: a short can", y.judge(1), -4);
    }

    // 24: "ICE of all CELLS"

    private static void imageOfNothing() {
        SaidInWinter x = new SaidInWinter();
        due.is("24: no ice", x.image(), 0);
        Edges.freeze(x, 3, 0, 1, 9);
        x.winter();
        due.is("24: no ice comes back", x.restore(), 0);
        due.is("24: no layer", x.count(1), 0);
        due.is("24: winter 0", x.count(0), 0);
        due.is("24: all ice", full(9).image(), 48 * 9);
        edges.tellsAlone("24: the image of what is imaged", SeedsAndImageEdgeTest::imaged, SaidInWinter::image);
    }

    private static SaidInWinter imaged() {
        SaidInWinter x = Edges.standing();
        x.image();
        return x;
    }

    private static void imageTwice() {
        SaidInWinter x = Edges.piled(1, 0, 0, 1, 5);
        x.image();
        Edges.freeze(x, 1, 0, 2, 6);
        due.is("24: the second", x.image(), 11);
        x.cut(0, 9);
        x.cut(1, 9);
        due.is("24: the second it is", x.restore(), 11);
        due.is("24: of the second the layer", x.layer(1, 0, 1), 2);
    }

    // 24: "all that there is, but SHELVES (and THE IMAGE)"

    private static void imageButShelves() {
        SaidInWinter x = Edges.standing();
        x.image();
        String before = Due.told(x);
        x.drift();
        x.thaw(3);
        x.winter();
        x.cut(1, 5);
        Edges.freeze(x, 5, 7, 7, 7);
        due.holds("24: another lake", !before.equals(Due.told(x)));
        x.restore();
        due.holds("24: all as it was", before.equals(Due.told(x)));
        due.is("24: winter as it was", x.count(0), 1);
        x.thaw(1);
        SaidInWinter y = Edges.standing();
        y.thaw(1);
        due.holds("24: it melts as it would have", Due.told(x).equals(Due.told(y)));
        due.is("24: it is read as it would have been", x.count(3), y.count(3));
    }

    private static void imageIsNoRestoredLake() {
        SaidInWinter x = Edges.piled(3, 0, 0, 1, 5);
        x.image();
        x.restore();
        x.cut(0, 99);
        due.is("24: what is restored may change, the image stays", x.restore(), 15);
        due.is("24: its layers", x.cell(0, 0), 3);
        SaidInWinter y = Edges.piled(1, 0, 0, 1, 5);
        y.image();
        y.drift();
        due.is("24: drifts do not drift the image", y.restore(), 5);
        due.is("24: in cell 0", y.cell(0, 0), 1);
        y.seeded(40, 7);
        Due.read(y, "n0001;t0;");
        due.is("24: what is in mind does not change it", y.restore(), 5);
    }

    // 25: "-3: there is none"

    private static void restoreNone() {
        SaidInWinter none = Edges.piled(8, 0, 0, 0, 9);
        due.is("25: none", none.restore(), -3);
        due.is("25: all stays", none.cell(0, 1), 72);
        due.is("25: none again", none.restore(), -3);
        due.is("25: another object's does not matter", Edges.standing().image() >= 0 ? new SaidInWinter().restore() : 0, -3);
    }

    // 25: "SHELVES stay as they are"

    private static void restoreShelvesStay() {
        SaidInWinter x = Edges.standing();
        x.keep(0, 1, 4, 5);
        x.put(4, 0, 99);
        x.keep(6, 0, 0, 0);
        x.row(1, 2, 1);
        x.restore();
        due.is("25: a layer that came since", x.toss(0), 105);
        due.is("25: an element that came since", x.element(4, 0), 99);
        due.is("25: nothing since", x.toll(6), -11);
        due.is("25: a row since", x.toll(1), -12);
        due.is("25: what was there", x.element(3, 1), -300);
    }

    private static void restoreAgain() {
        SaidInWinter x = Edges.standing();
        int ice = x.restore();
        String restored = Due.told(x);
        due.is("25: ice of all cells", x.count(2), ice);
        due.is("25: again", x.restore(), ice);
        due.holds("25: again the same", restored.equals(Due.told(x)));
        SaidInWinter most = full(9);
        most.image();
        due.is("25: the most layers", most.restore(), 48 * 9);
        due.is("25: 48 of them", most.count(1), 48);
    }

    // 26: "-1 for others"

    private static void countRange() {
        edges.range("26: count", 0, 4, SaidInWinter::count);
        edges.range("26: count of no ice", 0, 4, SaidInWinter::new, SaidInWinter::count);
        edges.tellsAlone("26: count", x -> x.count(3));
    }

    private static void countEmptyAndFull() {
        for (int what = 0; what < 5; what++) {
            due.is("26: of nothing, " + what, new SaidInWinter().count(what), 0);
        }
        SaidInWinter x = full(9);
        due.is("26: layers where all is full", x.count(1), 48);
        due.is("26: ice where all is full", x.count(2), 48 * 9);
        due.is("26: read, where all is full: two in each", x.count(3), 12);
        due.is("26: oath 0 is a bit, too", x.count(4), 1);
        due.is("26: oath 9 is a bit, too", Edges.piled(1, 5, 0, 9, 1).count(4), 512);
        due.is("26: all oaths", Due.lakeOf("n0001;n0011;n0021;n0031;n0041;n1051;n1061;n1071;n5081;n5091;").count(4), 1023);
        SaidInWinter y = Due.lakeOf("n0019;n0729;");
        due.is("26: too deep by its light", y.count(3), 1);
        y.cut(0, 9);
        due.is("26: just not too deep", y.count(3), 2);
        y.cut(0, 9);
        due.is("26: an oath that is no more", y.count(4), 2);
    }
}
