/** Promises 10 to 13, sentence by sentence, where the document names an edge. */
public final class ReadEdgeTest {
    private static final Due due = new Due();
    private static final Edges edges = new Edges(due);

    public static void main(String[] args) {
        holdsRanges();
        holdsNoIce();
        holdsTopmost();
        latestRanges();
        latestNone();
        latestTies();
        seenRanges();
        seenNone();
        seenCutThrough();
        seenAtItsLight();
        seenOnlyInMind();
        holesRanges();
        holesNoneTold();
        holesNoSuch();
        holesFewestThenLeast();
        holesAllTold();
        due.end();
    }

    // 10: "-4"; "-1"; "the OATH of the topmost layer of a CELL that one can READ"

    private static void holdsRanges() {
        edges.range("10: holds of cell", 0, 5, SaidInWinter::holds);
        edges.tellsAlone("10: holds", x -> x.holds(0));
    }

    private static void holdsNoIce() {
        for (int c = 0; c < 6; c++) {
            due.is("10: cell " + c + " without ice", new SaidInWinter().holds(c), -4);
            due.is("10: cell " + c + " with the least", Edges.piled(1, c, 2, 0, 1).holds(c), 0);
        }
        SaidInWinter x = Edges.piled(1, 2, 0, 7, 2);
        x.thaw(1);
        due.is("10: it melted", x.holds(2), -4);
        SaidInWinter y = Edges.piled(1, 2, 0, 7, 2);
        y.cut(2, 2);
        due.is("10: it was cut", y.holds(2), -4);
    }

    private static void holdsTopmost() {
        for (int kind = 0; kind < 8; kind++) {
            for (int oath = 0; oath < 10; oath++) {
                SaidInWinter x = Edges.piled(7, 0, 0, 1, 1);
                Edges.freeze(x, 0, kind, oath, 9);
                due.is("10: bare kind " + kind + " with " + oath, x.holds(0), oath);
            }
        }
        SaidInWinter x = Due.lakeOf("n0011;n0721;n0031;");
        x.cut(0, 1);
        due.is("10: cracked ice that lies bare", x.holds(0), 2);
        x.cut(0, 2);
        due.is("10: the lowest", x.holds(0), 1);
    }

    // 11: "-4. -1"; "that with the greatest WINTER, of several that in the least CELL, then the highest"

    private static void latestRanges() {
        edges.range("11: latest of", 0, 9, SaidInWinter::latest);
        edges.tellsAlone("11: latest", x -> x.latest(3));
    }

    private static void latestNone() {
        for (int oath = 0; oath < 10; oath++) {
            due.is("11: " + oath + " on no ice", new SaidInWinter().latest(oath), -4);
            due.is("11: " + oath + " alone", Edges.piled(1, 0, 0, oath, 1).latest(oath), 0);
            due.is("11: not " + oath + " but another", Edges.piled(8, 0, 0, (oath + 1) % 10, 1).latest(oath), -4);
        }
    }

    private static void latestTies() {
        due.is("11: the last place", Edges.piled(8, 5, 0, 3, 1).latest(3), 57);
        due.is("11: the highest in a cell", Due.lakeOf("n1031;n1031;n1041;").latest(3), 11);
        due.is("11: the least cell, though another is higher", Due.lakeOf("n1031;n2031;n2031;").latest(3), 10);
        due.is("11: the greatest winter, though the cell is greater", Due.lakeOf("n0031;n0031;w;n5031;").latest(3), 50);
        due.is("11: the greatest winter, though it is lower", Due.lakeOf("w;n5031;n5041;").latest(3), 50);
        due.is("11: of one cell the later", Due.lakeOf("n0031;w;n0031;n0041;").latest(3), 1);
        SaidInWinter x = Edges.piled(1, 4, 0, 3, 1);
        for (int i = 0; i < 98; i++) {
            x.winter();
        }
        Edges.freeze(x, 3, 0, 3, 1);
        x.winter();
        Edges.freeze(x, 5, 0, 3, 1);
        due.is("11: winter 99 goes ahead of 98", x.latest(3), 50);
        x.cut(5, 1);
        due.is("11: winter 98 goes ahead of 0", x.latest(3), 30);
        x.cut(3, 1);
        due.is("11: winter 0 is left", x.latest(3), 40);
        x.cut(4, 1);
        due.is("11: none is left", x.latest(3), -4);
    }

    // 12: "(bits). -1 (CELLS 0 .. 63)"; "so many FINGERS .. (0 .. 99; in mind)"

    private static void seenRanges() {
        edges.range("12: seen in", 0, 63, (x, v) -> x.seen(v, 0));
        edges.range("12: seen behind", 0, 99, (x, v) -> x.seen(63, v));
        edges.refused("12: neither is as told", -1, x -> x.seen(64, 100));
    }

    private static void seenNone() {
        due.is("12: no ice", new SaidInWinter().seen(63, 0), 0);
        due.is("12: no ice, deepest", new SaidInWinter().seen(63, 99), 0);
        due.is("12: no cells", Edges.piled(1, 0, 0, 1, 1).seen(0, 0), 0);
        for (int c = 0; c < 6; c++) {
            SaidInWinter x = Edges.piled(1, c, 0, 9, 1);
            due.is("12: cell " + c + " alone", x.seen(1 << c, 0), 512);
            due.is("12: all but cell " + c, x.seen(63 - (1 << c), 0), 0);
            due.is("12: all", x.seen(63, 0), 512);
        }
    }

    private static void seenCutThrough() {
        // 3 fingers of oath 2 on 19 of oath 1
        SaidInWinter x = Due.lakeOf("n0619;n0023;");
        due.is("12: one finger is left of the topmost", x.seen(1, 2), 1 << 2 | 1 << 1);
        due.is("12: none is left of the topmost", x.seen(1, 3), 1 << 1);
        due.is("12: as many as there are but one", x.seen(1, x.cell(0, 1) - 1), 1 << 1);
        due.is("12: as many as there are", x.seen(1, x.cell(0, 1)), 0);
        due.is("12: one more", x.seen(1, x.cell(0, 1) + 1), 0);
        SaidInWinter full = Edges.piled(8, 3, 6, 9, 9);
        due.is("12: 99 of 152", full.seen(8, 99), 512);
        SaidInWinter just = Edges.piled(1, 3, 0, 0, 4);
        for (int i = 0; i < 5; i++) {
            Edges.freeze(just, 3, 6, 9, 9);
        }
        due.is("12: 99 of 99", just.seen(8, 99), 0);
        SaidInWinter more = Edges.piled(1, 3, 0, 0, 5);
        for (int i = 0; i < 5; i++) {
            Edges.freeze(more, 3, 6, 9, 9);
        }
        due.is("12: 99 of 100", more.seen(8, 99), 1);
    }

    private static void seenAtItsLight() {
        // 10 fingers of oath 2 on snow, which is read through 3
        SaidInWinter x = Due.lakeOf("n0315;n0129;");
        due.is("12: 4 are above", x.seen(1, 6), 1 << 2);
        due.is("12: 3 are above", x.seen(1, 7), 1 << 2 | 1 << 1);
        // 2 fingers of oath 2 on cracked ice, which is read bare
        SaidInWinter y = Due.lakeOf("n0715;n0022;");
        due.is("12: 1 is above", y.seen(1, 1), 1 << 2);
        due.is("12: none is above", y.seen(1, 2), 1 << 1);
        // bubbly ice with 9 is read through 5
        SaidInWinter z = Due.lakeOf("n0491;n0027;");
        due.is("12: 6 are above", z.seen(1, 1), 1 << 2);
        due.is("12: 5 are above", z.seen(1, 2), 1 << 2 | 1 << 9);
        due.is("12: one oath on two layers, the lower too deep", Due.lakeOf("n0711;n0019;").seen(1, 0), 1 << 1);
    }

    private static void seenOnlyInMind() {
        edges.tellsAlone("12: seen", x -> x.seen(63, 99));
        edges.tellsAlone("13: holes", x -> x.holes(1023, 99));
    }

    // 13: "-4. -1 (OATHS 0 .. 1023)"; "the fewest CELLS (bits, of several the least)"

    private static void holesRanges() {
        edges.range("13: holes for", 0, 1023, SaidInWinter::new, (x, v) -> x.holes(v, 0));
        edges.range("13: holes of", 0, 99, (x, v) -> x.holes(1, v));
        edges.refused("13: neither is as told", -1, x -> x.holes(1024, -1));
        edges.refused("13: no such depth, an oath there is not", -1, x -> x.holes(1, 100));
    }

    private static void holesNoneTold() {
        due.is("13: none told, no ice", new SaidInWinter().holes(0, 0), 0);
        due.is("13: none told, ice", Edges.standing().holes(0, 0), 0);
        due.is("13: none told, all cut", Edges.standing().holes(0, 99), 0);
    }

    private static void holesNoSuch() {
        for (int oath = 0; oath < 10; oath++) {
            due.is("13: " + oath + " on no ice", new SaidInWinter().holes(1 << oath, 0), -4);
            SaidInWinter x = Edges.piled(1, 5, 0, oath, 2);
            due.is("13: " + oath + " bare", x.holes(1 << oath, 0), 32);
            due.is("13: " + oath + " with one finger", x.holes(1 << oath, 1), 32);
            due.is("13: " + oath + " cut through", x.holes(1 << oath, 2), -4);
        }
        due.is("13: one of two there is not", Edges.piled(1, 5, 0, 3, 2).holes(1 << 3 | 1 << 4, 0), -4);
        due.is("13: too deep", Due.lakeOf("n0715;n0021;").holes(1 << 1, 0), -4);
    }

    private static void holesFewestThenLeast() {
        String all = "n0011;n1011;n2011;n3011;n4011;n5011;";
        due.is("13: the least of six", Due.lakeOf(all).holes(1 << 1, 0), 1);
        due.is("13: one great cell goes ahead of two lesser ones", Due.lakeOf("n0011;n1021;n5011;n5021;").holes(6, 0), 32);
        due.is("13: of two pairs the least", Due.lakeOf("n0011;n1021;n2011;n3021;").holes(6, 0), 3);
        due.is("13: a pair with a great cell is less than one with a greater", Due.lakeOf("n4011;n5011;n0021;").holes(6, 0), 17);
        due.is("13: cells that aren't needed are not told", Due.lakeOf(all).holes(1 << 1, 0) & ~1, 0);
        due.is("13: the hole makes two of one", Due.lakeOf("n0711;n0022;n1021;n2011;").holes(6, 0), 5);
        due.is("13: one finger cut", Due.lakeOf("n0711;n0021;n1022;n2012;").holes(6, 1), 3);
    }

    private static void holesAllTold() {
        String ten = "n0001;n0011;n1021;n1031;n2041;n2051;n3061;n3071;n4081;n4091;";
        due.is("13: all ten", Due.lakeOf(ten).holes(1023, 0), 31);
        due.is("13: all six cells", Due.lakeOf("n0001;n1011;n2021;n3031;n4041;n5051;").holes(63, 0), 63);
        due.is("13: all six cells have more than is told", Due.lakeOf(ten, "n5091;").holes(512, 0), 16);
    }
}
