import java.util.function.Supplier;

/** Promises 1 to 9, sentence by sentence, where the document names an edge. */
public final class LakesEdgeTest {
    private static final Due due = new Due();
    private static final Edges edges = new Edges(due);

    public static void main(String[] args) {
        newObjectHasNothing();
        lakeShelves();
        lakeSortGoesAheadOfFault();
        lakeAtLeastOneStatement();
        lakeEndsTooEarly();
        lakeFirstByteThatDoesNotFit();
        lakeNumbersOutOfRange();
        lakeNoRoom();
        lakeNoWinterAbove99();
        lakeKindsOfFault();
        lakeOneBehindTheOther();
        lakeAllOrNothing();
        lakeSizes();
        freezeRanges();
        freezeFingers();
        freezeRoom();
        freezeOrder();
        thawRange();
        thawJustThrough();
        thawNextLosesNothing();
        thawCounts();
        cutRanges();
        cutJustThrough();
        cutCounts();
        driftOf5To0();
        winterUpTo99();
        layerRanges();
        layerReadAtItsLight();
        cellRanges();
        tellingAlone();
        due.end();
    }

    private static int read(Supplier<SaidInWinter> fresh, String text) {
        return Due.read(fresh.get(), text);
    }

    private static void text(String text, int want) {
        due.is("2: lake of " + text, read(SaidInWinter::new, text), want);
    }

    // 1: "No ICE, WINTER 0"; "SHELVES 0 .. 7 each hold nothing (at first)"; "-3: there is none"

    private static void newObjectHasNothing() {
        SaidInWinter x = new SaidInWinter();
        due.is("1: no ice", x.count(2), 0);
        due.is("1: no layers", x.count(1), 0);
        due.is("1: winter 0", x.count(0), 0);
        due.is("1: the first layer is of winter 0", Edges.piled(1, 0, 0, 0, 1).layer(0, 0, 2), 0);
        for (int d = 0; d < 8; d++) {
            due.is("1: shelf " + d + " holds nothing", new SaidInWinter().judge(d), -11);
        }
        due.is("1: no image", new SaidInWinter().restore(), -3);
    }

    // 2: "-1, -11, -12 (no ROW of bytes)"

    private static void lakeShelves() {
        edges.range("2: lake of shelf", 0, 7, SaidInWinter::lake);
        edges.refused("2: lake of nothing", -11, x -> x.lake(0));
        edges.refused("2: lake of a layer", -12, x -> x.lake(1));
        edges.refused("2: lake of shorts", -12, x -> x.lake(3));
        edges.refused("2: lake of ints", -12, x -> x.lake(4));
        due.is("2: the last shelf", readAt(7, "w;"), 1);
        due.is("2: the first shelf", readAt(0, "w;"), 1);
    }

    private static int readAt(int d, String text) {
        SaidInWinter x = new SaidInWinter();
        Due.text(x, d, text);
        return x.lake(d);
    }

    private static void lakeSortGoesAheadOfFault() {
        for (int sort = 1; sort <= 2; sort++) {
            int ofSort = sort;
            SaidInWinter x = new SaidInWinter();
            Due.ints(x, 0, ofSort, 'w', ';');
            due.is("2: a good text of sort " + sort, x.lake(0), -12);
            due.is("2: it brings no winter", x.count(0), 0);
            Due.ints(x, 0, ofSort, 'z');
            due.is("2: a bad text of sort " + sort, x.lake(0), -12);
            x.row(0, ofSort, 0);
            due.is("2: no text of sort " + sort, x.lake(0), -12);
        }
    }

    // 2: "At least one STATEMENT"

    private static void lakeAtLeastOneStatement() {
        text("", -1000);
        text("d;", 1);
        text(";", -1000);
        text(";d;", -1000);
        text("d;;", -1002);
    }

    // 2: "the size, if it ends too early"; "with ; behind"

    private static void lakeEndsTooEarly() {
        for (String whole : new String[] {"n0001;", "t1;", "c001;", "d;", "w;"}) {
            text(whole, 1);
            for (int size = 1; size < whole.length(); size++) {
                text(whole.substring(0, size), -1000 - size);
                text("t9;" + whole.substring(0, size), -1003 - size);
            }
        }
        text("d;".repeat(49) + "d", -1099);
        text("d;".repeat(49) + "t1", -1100);
        text("d;".repeat(47) + "n00001", -1099);
        text("d;".repeat(48) + "c001", -1100);
    }

    // 2: "the place of the first byte with which no LAKE can go on"

    private static void lakeFirstByteThatDoesNotFit() {
        for (int letter = -128; letter < 128; letter++) {
            SaidInWinter x = new SaidInWinter();
            Due.ints(x, 0, 0, letter, ';');
            boolean isWhole = letter == 'd' || letter == 'w';
            boolean isBegun = letter == 'n' || letter == 't' || letter == 'c';
            due.is("2: the letter " + letter, x.lake(0), isWhole ? 1 : isBegun ? -1001 : -1000);
        }
        for (String whole : new String[] {"n0101;", "t1;", "c011;", "d;", "w;"}) {
            for (int at = 1; at < whole.length(); at++) {
                boolean isEnd = at == whole.length() - 1;
                for (int sign = -128; sign < 128; sign++) {
                    if (isEnd ? sign != ';' : sign < '0' || sign > '9') {
                        due.is("2: " + sign + " at " + at + " of " + whole, withSign(whole, at, sign), -1000 - at);
                    }
                }
            }
        }
        text("t12;", -1002);
        text("c0101;", -1004);
        text("c01;", -1003);
        text("n00011;", -1005);
        text("n000;", -1004);
        text("d1;", -1001);
        text("w0;", -1001);
        text("t;", -1001);
        text("t-1;", -1001);
        text("zz", -1000);
        text("d;n0z0z;", -1004);
    }

    private static int withSign(String text, int at, int sign) {
        SaidInWinter x = new SaidInWinter();
        Due.text(x, 0, text + "d;");
        x.put(0, at, sign);
        return x.lake(0);
    }

    // 2: "isn't as told (a number out of range"; CELLS 0 .. 5, KINDS 0 .. 7, OATHS 0 .. 9, FROST, days 1 .. 9, FINGERS 1 .. 99

    private static void lakeNumbersOutOfRange() {
        for (int v = 0; v < 10; v++) {
            text("n" + v + "001;", v <= 5 ? 1 : -2000);
            text("n0" + v + "01;", v <= 7 ? 1 : -2000);
            text("n00" + v + "1;", 1);
            text("n000" + v + ";", v >= 1 ? 1 : -2000);
            text("t" + v + ";", v >= 1 ? 1 : -2000);
            text("c" + v + "01;", v <= 5 ? 1 : -2000);
            text("d;c0" + v + "0;", v >= 1 ? 2 : -2002);
            text("d;c00" + v + ";", v >= 1 ? 2 : -2002);
        }
        text("c599;", 1);
        SaidInWinter x = Due.lakeOf("n5799;c517;");
        due.is("2: the greatest layer, the greatest numbers", x.cell(5, 1), 1);
        due.is("2: its kind", x.layer(5, 0, 0), 7);
        due.is("2: its oath", x.layer(5, 0, 1), 9);
    }

    // 2: "no room for a layer"; "8 at most"

    private static void lakeNoRoom() {
        text("n3001;".repeat(8), 8);
        text("n3001;".repeat(9), -2048);
        text("n3001;".repeat(8) + "n2001;", 9);
        SaidInWinter x = Edges.piled(7, 3, 0, 1, 1);
        due.is("2: the eighth layer", Due.read(x, "n3001;"), 1);
        due.is("2: the ninth layer", Due.read(x, "n3001;"), -2000);
        due.is("2: the ninth behind another statement", Due.read(x, "w;n3001;"), -2002);
        due.is("2: eight are left", x.cell(3, 0), 8);
    }

    // 2: "no WINTER above 99"

    private static SaidInWinter inWinter(int winter) {
        SaidInWinter x = new SaidInWinter();
        for (int i = 0; i < winter; i++) {
            x.winter();
        }
        return x;
    }

    private static void lakeNoWinterAbove99() {
        due.is("2: from winter 98 on", read(() -> inWinter(98), "w;"), 1);
        due.is("2: from winter 98 on twice", read(() -> inWinter(98), "w;w;"), -2002);
        due.is("2: from winter 99 on", read(() -> inWinter(99), "w;"), -2000);
        due.is("2: from winter 99 on, behind another", read(() -> inWinter(99), "t1;w;"), -2003);
        due.is("2: from winter 49 on", read(() -> inWinter(49), "w;".repeat(50)), 50);
        due.is("2: from winter 50 on", read(() -> inWinter(50), "w;".repeat(50)), -2098);
        SaidInWinter last = inWinter(98);
        Due.read(last, "w;n0001;");
        due.is("2: a layer of winter 99", last.layer(0, 0, 2), 99);
    }

    // 2: "kind 1 (of any place) goes ahead of kind 2"; "the letter of the first STATEMENT"

    private static void lakeKindsOfFault() {
        text("t0;z", -1003);
        text("t0;d", -1004);
        text("n9999;c0", -1008);
        text("n0001;".repeat(9) + "!", -1054);
        text("t0;", -2000);
        text("d;t0;t0;", -2002);
        text("d;c001;w;n0080;t0;", -2009);
        text("d;".repeat(48) + "t0;", -2096);
        text("d;".repeat(47) + "n0000;", -2094);
    }

    // 2: "STATEMENTS are tried one behind the other, each on what those ahead of it made"

    private static void lakeOneBehindTheOther() {
        String full = "n0001;".repeat(8);
        text(full + "t1;n0001;", 10);
        text(full + "c001;n0001;", 10);
        text(full + "d;n0001;", 10);
        text(full + "c101;n0001;", -2053);
        text(full + "w;n0001;", -2050);
        text(full + "d;n1001;", -2050);
        text("n5001;".repeat(8) + "d;n0001;", -2050);
        SaidInWinter x = Due.lakeOf("n0009;t2;w;d;c101;");
        due.is("2: 9 less 4 less 1, in the cell where it came", x.cell(1, 1), 4);
        due.is("2: of the winter in which it froze", x.layer(1, 0, 2), 0);
        SaidInWinter other = Due.lakeOf("d;t9;c099;n0009;");
        due.is("2: what comes ahead of a layer leaves it", other.cell(0, 1), 9);
        due.is("2: a fault ahead of a good one", read(SaidInWinter::new, "n0000;n0001;"), -2000);
    }

    // 2: "Without FAULT all of it comes; with one nothing"; "The ROW that is read .. stay(s) there"

    private static void lakeAllOrNothing() {
        String good = "n1015;w;n1025;t1;d;c201;";
        SaidInWinter x = Due.lakeOf(good);
        due.is("2: all of it: layers", x.cell(2, 0), 2);
        due.is("2: all of it: ice", x.cell(2, 1), 7);
        due.is("2: all of it: winter", x.count(0), 1);
        due.is("2: all of it: the lower layer's winter", x.layer(2, 0, 2), 0);
        due.is("2: all of it: the upper layer's winter", x.layer(2, 1, 2), 1);
        for (String bad : new String[] {"t0;", "c600;", "n0001", "z", "w"}) {
            SaidInWinter faulty = Edges.standing();
            Due.text(faulty, 5, good + bad);
            SaidInWinter same = Edges.standing();
            Due.text(same, 5, good + bad);
            due.holds("2: a fault in " + bad, faulty.lake(5) <= -1000);
            due.holds("2: with " + bad + " nothing comes, the row stays", Edges.all(faulty).equals(Edges.all(same)));
        }
        SaidInWinter kept = new SaidInWinter();
        Due.text(kept, 2, good);
        kept.lake(2);
        for (int i = 0; i < good.length(); i++) {
            due.is("2: element " + i + " of what was read", kept.element(2, i), good.charAt(i));
        }
        due.is("2: nothing is behind it", Edges.thrown(kept, 2, good.length()), 2);
    }

    // 2: "how many STATEMENTS"; a ROW has 100 elements at most

    private static void lakeSizes() {
        text("w;", 1);
        text("d;".repeat(50), 50);
        text("n0001;n1001;".repeat(8) + "d;d;", 18);
    }

    // 3: "SHELVES 0 .. 7", "CELLS 0 .. 5", "a FROST f (1 .. 9)"

    private static SaidInWinter layersOnShelves() {
        SaidInWinter x = new SaidInWinter();
        for (int d = 0; d < 8; d++) {
            x.keep(d, 1, d, d);
        }
        return x;
    }

    private static void freezeRanges() {
        edges.range("3: freeze of shelf", 0, 7, LakesEdgeTest::layersOnShelves, (x, v) -> x.freeze(v, 0, 1));
        edges.range("3: freeze on cell", 0, 5, LakesEdgeTest::layersOnShelves, (x, v) -> x.freeze(0, v, 1));
        edges.range("3: freeze in frost", 1, 9, LakesEdgeTest::layersOnShelves, (x, v) -> x.freeze(0, 0, v));
    }

    // 3: "FORGED half of a LAYER's, cut, 1 at least", "SALT a SNOW's less 1", "BLACK a CLEAR's and OATH"

    private static void frozen(int kind, int oath, int frost, int fingers) {
        SaidInWinter x = new SaidInWinter();
        due.is("3: kind " + kind + ", oath " + oath + ", frost " + frost, Edges.freeze(x, 0, kind, oath, frost), fingers);
        due.is("3: so thick is it", x.layer(0, 0, 3), fingers);
    }

    private static void freezeFingers() {
        int[] forged = {1, 1, 1, 2, 2, 3, 3, 4, 4};
        for (int frost = 1; frost <= 9; frost++) {
            frozen(0, 9, frost, frost);
            frozen(1, 9, frost, frost + 1);
            frozen(2, 9, frost, forged[frost - 1]);
            frozen(3, 9, frost, 2 * frost);
            frozen(4, 9, frost, frost + 1);
            frozen(5, 9, frost, 2 * frost - 1);
            frozen(6, 0, frost, frost + 1);
            frozen(6, 9, frost, frost + 10);
            frozen(7, 9, frost, 2 * frost);
        }
    }

    // 3: "8 at most", "-2", "it is on top of the CELL then"

    private static void freezeRoom() {
        for (int c = 0; c < 6; c++) {
            SaidInWinter x = new SaidInWinter();
            x.keep(7, 1, 0, 4);
            for (int i = 0; i < 8; i++) {
                due.is("3: layer " + i + " of cell " + c, x.freeze(7, c, i % 9 + 1), i % 9 + 1);
                due.is("3: it is on top", x.layer(c, i, 4), 0);
            }
            due.is("3: a ninth in cell " + c, x.freeze(7, c, 1), -2);
            due.is("3: there are eight", x.cell(c, 0), 8);
            due.is("3: the ice is as it was", x.cell(c, 1), 36);
            due.is("3: the cell beside has room", x.freeze(7, (c + 1) % 6, 1), 1);
            x.cut(c, 8);
            due.is("3: room again", x.freeze(7, c, 1), 1);
            due.is("3: none again", x.freeze(7, c, 1), -2);
        }
        edges.refused("3: no room", -2, x -> x.freeze(1, 0, 1));
    }

    // 3: "-1, -11, -12 (a ROW), -2": the first of several as they are told

    private static void freezeOrder() {
        edges.refused("3: nothing", -11, x -> x.freeze(0, 1, 1));
        edges.refused("3: bytes", -12, x -> x.freeze(2, 1, 1));
        edges.refused("3: shorts", -12, x -> x.freeze(3, 1, 1));
        edges.refused("3: ints", -12, x -> x.freeze(4, 1, 1));
        edges.refused("3: a row of none", -12, x -> x.freeze(7, 1, 1));
        for (int d : new int[] {0, 1, 2}) {
            edges.refused("3: no such cell, shelf " + d, -1, x -> x.freeze(d, 6, 1));
            edges.refused("3: no such cell below, shelf " + d, -1, x -> x.freeze(d, -1, 1));
            edges.refused("3: no such frost, no room, shelf " + d, -1, x -> x.freeze(d, 0, 0));
            edges.refused("3: no such frost above, no room, shelf " + d, -1, x -> x.freeze(d, 0, 10));
        }
        edges.refused("3: no such shelf, no room", -1, x -> x.freeze(8, 0, 1));
        edges.refused("3: no such shelf below, no room", -1, x -> x.freeze(-1, 0, 1));
        edges.refused("3: nothing, no room", -11, x -> x.freeze(0, 0, 1));
        edges.refused("3: a row, no room", -12, x -> x.freeze(2, 0, 1));
    }

    // 4: "n WARM DAYS (1 .. 99)"

    private static void thawRange() {
        edges.range("4: thaw", 1, 99, SaidInWinter::thaw);
        SaidInWinter black = Edges.piled(8, 0, 6, 9, 9);
        black.thaw(99);
        due.is("4: 99 days of one finger each", black.cell(0, 1), 152 - 99);
    }

    // 4: "where nothing is left of it, it is no more"

    private static void thawJustThrough() {
        int[] melts = {2, 1, 4, 3, 2, 6, 1, 3};
        int[] frostOfJustThat = {2, 0, 8, 0, 1, 0, 0, 0};
        for (int kind : new int[] {0, 2, 4}) {
            SaidInWinter x = Edges.piled(1, 0, kind, 0, frostOfJustThat[kind]);
            due.is("4: as many fingers as kind " + kind + " melts", x.cell(0, 1), melts[kind]);
            due.is("4: nothing is left of kind " + kind, x.thaw(1), 1);
            due.is("4: no layer", x.cell(0, 0), 0);
        }
        for (int kind : new int[] {0, 1, 3, 4, 5, 6, 7}) {
            SaidInWinter x = Edges.piled(1, 0, kind, 0, 9);
            x.cut(0, x.cell(0, 1) - melts[kind] - 1);
            due.is("4: one finger more than kind " + kind + " melts", x.thaw(1), 0);
            due.is("4: one finger of kind " + kind + " is left", x.layer(0, 0, 3), 1);
            SaidInWinter just = Edges.piled(1, 0, kind, 0, 9);
            just.cut(0, just.cell(0, 1) - melts[kind]);
            due.is("4: just as many as kind " + kind + " melts", just.thaw(1), 1);
        }
        due.is("4: cracked ice with 9 melts 12", Edges.piled(1, 0, 7, 9, 6).thaw(1), 1);
        due.is("4: cracked ice with 9 melts no 14", Edges.piled(1, 0, 7, 9, 7).thaw(1), 0);
    }

    // 4: "the next one below loses nothing that day"

    private static void thawNextLosesNothing() {
        SaidInWinter x = Due.lakeOf("n0019;n0791;");
        due.is("4: a layer of two fingers that melts twelve", x.thaw(1), 1);
        due.is("4: the one below has all", x.layer(0, 0, 3), 9);
        due.is("4: the day behind it melts", x.thaw(1), 0);
        due.is("4: by two", x.layer(0, 0, 3), 7);
        SaidInWinter y = Due.lakeOf("n0019;n0021;");
        due.is("4: two days at once", y.thaw(2), 1);
        due.is("4: one of them for each", y.layer(0, 0, 3), 7);
    }

    // 4: "how many layers are no more"; "of each CELL the topmost layer"

    private static void thawCounts() {
        due.is("4: of no ice", new SaidInWinter().thaw(99), 0);
        SaidInWinter x = Due.lakeOf("n0001;n1001;n2001;n3001;n4001;n5001;n5001;");
        due.is("4: one of each cell", x.thaw(1), 6);
        due.is("4: one is left", x.count(1), 1);
        due.is("4: the last one", x.thaw(1), 1);
        due.is("4: none", x.thaw(1), 0);
        due.is("4: eight in eight days", Edges.piled(8, 5, 0, 0, 1).thaw(8), 8);
        due.is("4: seven in seven days", Edges.piled(8, 5, 0, 0, 1).thaw(7), 7);
        due.is("4: eight in many", Edges.piled(8, 5, 0, 0, 1).thaw(99), 8);
    }

    // 5: "CUT a CELL d FINGERS deep (1 .. 99)"

    private static void cutRanges() {
        edges.range("5: cut of cell", 0, 5, (x, v) -> x.cut(v, 1));
        edges.range("5: cut by fingers", 1, 99, (x, v) -> x.cut(0, v));
        SaidInWinter black = Edges.piled(8, 0, 6, 9, 9);
        black.cut(0, 99);
        due.is("5: 99 fingers of 152", black.cell(0, 1), 152 - 99);
    }

    // 5: "layers that are cut through are no more; all, if there are fewer"

    private static void cutJustThrough() {
        for (int fingers = 1; fingers <= 10; fingers++) {
            // three fingers on four on two
            SaidInWinter x = Due.lakeOf("n0012;n0024;n0033;");
            int gone = fingers < 3 ? 0 : fingers < 7 ? 1 : fingers < 9 ? 2 : 3;
            due.is("5: " + fingers + " of nine fingers", x.cut(0, fingers), gone);
            due.is("5: layers behind " + fingers, x.cell(0, 0), 3 - gone);
            due.is("5: ice behind " + fingers, x.cell(0, 1), Math.max(0, 9 - fingers));
        }
        SaidInWinter x = Due.lakeOf("n0012;n0024;");
        x.cut(0, 99);
        due.is("5: it freezes from the lowest on again", Edges.freeze(x, 0, 0, 5, 3), 3);
        due.is("5: one layer then", x.cell(0, 0), 1);
    }

    private static void cutCounts() {
        due.is("5: of no ice", new SaidInWinter().cut(0, 99), 0);
        due.is("5: of eight all", Edges.piled(8, 0, 0, 0, 9).cut(0, 72), 8);
        due.is("5: of eight all but one", Edges.piled(8, 0, 0, 0, 9).cut(0, 71), 7);
    }

    // 6: "of 5 to 0"; "LAYERS of CELL 0 then"

    private static void driftOf5To0() {
        due.is("6: of a new one", new SaidInWinter().drift(), 0);
        for (int c = 0; c < 6; c++) {
            SaidInWinter x = Edges.piled(8, c, 2, 3, 5);
            due.is("6: what cell 0 has of cell " + c, x.drift(), c == 5 ? 8 : 0);
            for (int to = 0; to < 6; to++) {
                due.is("6: from " + c + " to " + to, x.cell(to, 0), to == (c + 1) % 6 ? 8 : 0);
            }
        }
        SaidInWinter x = Edges.standing();
        for (int i = 0; i < 6; i++) {
            x.drift();
        }
        due.holds("6: six times bring all back", Edges.all(x).equals(Edges.all(Edges.standing())));
    }

    // 7: "-2 above 99"; "WINTER is one more"

    private static void winterUpTo99() {
        due.is("7: the first", new SaidInWinter().winter(), 1);
        due.is("7: the last but one", inWinter(97).winter(), 98);
        due.is("7: the last", inWinter(98).winter(), 99);
        edges.refused("7: above it", -2, () -> inWinter(99), SaidInWinter::winter);
    }

    // 8: "Of a layer of a CELL: 0 .. 5"; "-1"

    private static void layerRanges() {
        edges.range("8: layer of cell, which has ice,", 0, 5, () -> Due.lakeOf("n0001;n1001;n2001;n3001;n4001;n5001;"),
            (x, v) -> x.layer(v, 0, 0));
        edges.range("8: layer of eight", 0, 7, (x, v) -> x.layer(0, v, 0));
        edges.range("8: layer of two", 0, 1, (x, v) -> x.layer(2, v, 0));
        edges.range("8: what of a layer", 0, 5, (x, v) -> x.layer(0, 0, v));
        for (int v = -1; v < 9; v++) {
            int layer = v;
            edges.refused("8: layer " + v + " of no ice", -1, x -> x.layer(1, layer, 0));
        }
        SaidInWinter x = Due.lakeOf("n0011;n0021;c001;");
        due.is("8: a layer that is no more", x.layer(0, 1, 0), -1);
        due.is("8: the one below is", x.layer(0, 0, 1), 1);
    }

    // 8: "One can READ it, if DEPTH is no more than its LIGHT"; "DEPTH: FINGERS of all layers above it"

    private static void layerReadAtItsLight() {
        for (int oath = 0; oath < 10; oath++) {
            int[] light = {9, 14, 9, 3, 14 - oath, 3, 28, 0};
            for (int kind = 0; kind < 8; kind++) {
                for (int depth = 0; depth <= 30; depth++) {
                    SaidInWinter x = Edges.piled(1, 0, kind, oath, 9);
                    for (int left = depth; left > 0; left -= 9) {
                        Edges.freeze(x, 0, 0, 0, Math.min(9, left));
                    }
                    due.is("8: depth of the lowest", x.layer(0, 0, 4), depth);
                    int can = depth <= light[kind] ? 1 : 0;
                    due.is("8: to read kind " + kind + ", oath " + oath + " at " + depth, x.layer(0, 0, 5), can);
                }
            }
        }
        SaidInWinter full = Edges.piled(8, 1, 6, 9, 9);
        due.is("8: depth of the topmost of eight", full.layer(1, 7, 4), 0);
        due.is("8: depth of the lowest of eight", full.layer(1, 0, 4), 7 * 19);
    }

    // 9: "LAYERS (what 0), ICE (1). -1"

    private static void cellRanges() {
        edges.range("9: cell", 0, 5, (x, v) -> x.cell(v, 0));
        edges.range("9: what of a cell", 0, 1, (x, v) -> x.cell(0, v));
        due.is("9: layers of none", new SaidInWinter().cell(5, 0), 0);
        due.is("9: ice of none", new SaidInWinter().cell(5, 1), 0);
        due.is("9: the most layers", Edges.piled(9, 5, 6, 9, 9).cell(5, 0), 8);
        due.is("9: the most ice", Edges.piled(9, 5, 6, 9, 9).cell(5, 1), 152);
        due.is("9: the least ice", Edges.piled(1, 5, 0, 0, 1).cell(5, 1), 1);
    }

    private static void tellingAlone() {
        edges.tellsAlone("8: layer", x -> x.layer(0, 3, 5));
        edges.tellsAlone("9: cell", x -> x.cell(0, 1));
        edges.refused("9: no such cell and what", -1, x -> x.cell(6, 2));
    }
}
