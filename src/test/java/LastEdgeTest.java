/** Promises 14 to 16, sentence by sentence, where the document names an edge. */
public final class LastEdgeTest {
    private static final Due due = new Due();
    private static final Edges edges = new Edges(due);

    public static void main(String[] args) {
        lastsRanges();
        lastsWholeDays();
        lastsOneBehindTheOther();
        lastsAsThawsTell();
        frostRanges();
        frostSomethingIsLeft();
        frostNone();
        frostNeedsNoRoom();
        whereRanges();
        whereNow();
        whereBehindDays();
        whereAnyLayer();
        due.end();
    }

    // 14: "LASTS. -1"; "behind how many WARM DAYS (0 .. 999) a layer is no more"

    private static void lastsRanges() {
        edges.range("14: lasts of cell, which has ice,", 0, 5, () -> Due.lakeOf("n0001;n1001;n2001;n3001;n4001;n5001;"),
            (x, v) -> x.lasts(v, 0));
        edges.range("14: lasts of eight", 0, 7, (x, v) -> x.lasts(0, v));
        edges.range("14: lasts of one", 0, 0, (x, v) -> x.lasts(3, v));
        edges.refused("14: of no ice", -1, x -> x.lasts(1, 0));
        edges.refused("14: neither is there", -1, x -> x.lasts(6, 8));
        edges.tellsAlone("14: lasts", x -> x.lasts(0, 0));
    }

    private static void lastsWholeDays() {
        int[] melts = {2, 1, 4, 3, 2, 6, 1, 3};
        for (int kind = 0; kind < 8; kind++) {
            for (int frost = 1; frost <= 9; frost++) {
                SaidInWinter x = Edges.piled(1, 0, kind, 0, frost);
                int days = (int) Math.ceil(x.cell(0, 1) / (double) melts[kind]);
                due.is("14: kind " + kind + " in a frost of " + frost, x.lasts(0, 0), days);
            }
        }
        due.is("14: the least", Edges.piled(1, 0, 2, 0, 1).lasts(0, 0), 1);
        due.is("14: just two days' fingers", Edges.piled(1, 0, 0, 0, 4).lasts(0, 0), 2);
        due.is("14: one finger more", Edges.piled(1, 0, 0, 0, 5).lasts(0, 0), 3);
        due.is("14: cracked ice with 9, 12 fingers", Edges.piled(1, 0, 7, 9, 6).lasts(0, 0), 1);
        due.is("14: cracked ice with 9, 14 fingers", Edges.piled(1, 0, 7, 9, 7).lasts(0, 0), 2);
    }

    private static void lastsOneBehindTheOther() {
        SaidInWinter x = Due.lakeOf("n0011;n0021;");
        due.is("14: a finger of two that would melt", x.lasts(0, 1), 1);
        due.is("14: the other finger melts another day", x.lasts(0, 0), 2);
        due.is("14: the most days", Edges.piled(8, 5, 6, 9, 9).lasts(5, 0), 152);
        due.is("14: the topmost of these", Edges.piled(8, 5, 6, 9, 9).lasts(5, 7), 19);
        SaidInWinter cut = Due.lakeOf("n0015;n0025;c003;");
        due.is("14: what is cut lasts less", cut.lasts(0, 1), 1);
    }

    private static void lastsAsThawsTell() {
        for (int layer = 0; layer < 8; layer++) {
            SaidInWinter x = Edges.standing();
            int days = x.lasts(0, layer);
            for (int day = 1; day < days; day++) {
                x.thaw(1);
            }
            due.holds("14: layer " + layer + " is there the day before", x.cell(0, 0) > layer);
            x.thaw(1);
            due.is("14: layer " + layer + " is no more behind " + days + " days", x.cell(0, 0), layer);
        }
    }

    // 15: "-4. -1"; KINDS 0 .. 7, OATHS 0 .. 9, "so many WARM DAYS (1 .. 99)"

    private static void frostRanges() {
        edges.range("15: frost of kind", 0, 7, (x, v) -> x.frost(v, 0, 1));
        edges.range("15: frost with oath", 0, 9, (x, v) -> x.frost(0, v, 1));
        edges.range("15: frost for days", 1, 99, (x, v) -> x.frost(0, 0, v));
        edges.refused("15: nothing is as told", -1, x -> x.frost(8, 10, 0));
        edges.refused("15: no frost does, but the kind isn't as told", -1, x -> x.frost(8, 0, 99));
        edges.refused("15: no frost does, but the days aren't as told", -1, x -> x.frost(0, 0, 100));
        edges.tellsAlone("15: frost", x -> x.frost(6, 9, 18));
    }

    // 15: "so thick that on top of all something of it is left behind so many WARM DAYS"; "the least FROST (1 .. 9)"

    private static void frostSomethingIsLeft() {
        for (int kind = 0; kind < 8; kind++) {
            for (int oath = 0; oath < 10; oath += 3) {
                for (int days = 1; days <= 20; days++) {
                    due.is("15: kind " + kind + ", oath " + oath + ", days " + days,
                        new SaidInWinter().frost(kind, oath, days), leastByThaws(kind, oath, days));
                }
            }
        }
        SaidInWinter x = new SaidInWinter();
        due.is("15: two fingers melt in one day, three do not", x.frost(0, 0, 1), 3);
        due.is("15: eight melt in four days, nine do not", x.frost(0, 0, 4), 9);
        due.is("15: the least frost", x.frost(1, 0, 1), 1);
        due.is("15: the least frost, 10 days", x.frost(6, 9, 10), 1);
        due.is("15: 11 days", x.frost(6, 9, 11), 2);
        due.is("15: the greatest frost", x.frost(6, 9, 18), 9);
    }

    private static int leastByThaws(int kind, int oath, int days) {
        for (int frost = 1; frost <= 9; frost++) {
            if (Edges.piled(1, 0, kind, oath, frost).thaw(days) == 0) {
                return frost;
            }
        }
        return -4;
    }

    private static void frostNone() {
        SaidInWinter x = new SaidInWinter();
        due.is("15: plain, nine in four days, none in five", x.frost(0, 0, 5), -4);
        due.is("15: black with 9, none in 19 days", x.frost(6, 9, 19), -4);
        due.is("15: salt, none in three days", x.frost(5, 0, 3), -4);
        due.is("15: cracked with 9, none in two days", x.frost(7, 9, 2), -4);
        for (int oath = 0; oath < 10; oath++) {
            due.is("15: forged ice never", x.frost(2, oath, 1), -4);
        }
        for (int kind = 0; kind < 8; kind++) {
            due.is("15: kind " + kind + " for 99 days", x.frost(kind, 9, 99), -4);
        }
    }

    private static void frostNeedsNoRoom() {
        SaidInWinter x = new SaidInWinter();
        x.keep(0, 1, 0, 0);
        for (int i = 0; i < 48; i++) {
            x.freeze(0, i % 6, 1);
        }
        due.is("15: all cells are full", x.count(1), 48);
        due.is("15: the same frost", x.frost(0, 0, 1), 3);
    }

    // 16: "(bits). -1"; "would still be there behind so many WARM DAYS (0 .. 99)"

    private static void whereRanges() {
        edges.range("16: where of oath", 0, 9, (x, v) -> x.where(v, 0));
        edges.range("16: where behind", 0, 99, (x, v) -> x.where(1, v));
        edges.refused("16: neither is as told", -1, x -> x.where(10, 100));
        edges.tellsAlone("16: where", x -> x.where(1, 99));
    }

    private static void whereNow() {
        for (int oath = 0; oath < 10; oath++) {
            due.is("16: " + oath + " on no ice", new SaidInWinter().where(oath, 0), 0);
            for (int c = 0; c < 6; c++) {
                due.is("16: " + oath + " in cell " + c, Edges.piled(1, c, 2, oath, 1).where(oath, 0), 1 << c);
            }
            due.is("16: another than " + oath, Edges.piled(1, 0, 0, (oath + 1) % 10, 1).where(oath, 0), 0);
        }
        due.is("16: in all cells", Due.lakeOf("n0041;n1041;n2041;n3041;n4041;n5041;").where(4, 0), 63);
    }

    private static void whereBehindDays() {
        SaidInWinter x = Edges.piled(1, 2, 0, 3, 5);
        due.is("16: it lasts three days", x.lasts(2, 0), 3);
        due.is("16: behind two it is there", x.where(3, 2), 4);
        due.is("16: behind three it is no more", x.where(3, 3), 0);
        SaidInWinter least = Edges.piled(1, 2, 2, 3, 1);
        due.is("16: behind none it is there", least.where(3, 0), 4);
        due.is("16: behind one it is no more", least.where(3, 1), 0);
        SaidInWinter just = Edges.piled(1, 2, 0, 3, 2);
        for (int i = 0; i < 5; i++) {
            Edges.freeze(just, 2, 6, 9, 9);
        }
        due.is("16: 95 days of others and one of its own", just.lasts(2, 0), 96);
        due.is("16: behind 95", just.where(3, 95), 4);
        due.is("16: behind 96", just.where(3, 96), 0);
        Edges.freeze(just, 2, 1, 8, 3);
        due.is("16: behind 99 of 100", just.where(3, 99), 4);
        just.thaw(1);
        due.is("16: behind 99 of 99", just.where(3, 99), 0);
    }

    private static void whereAnyLayer() {
        SaidInWinter x = Due.lakeOf("n0011;n0021;n0011;");
        due.is("16: the upper one is no more, the lower one is", x.where(1, 1), 1);
        due.is("16: behind two days the lower one is still there", x.where(1, 2), 1);
        due.is("16: behind three none is", x.where(1, 3), 0);
        due.is("16: the one between", x.where(2, 1), 1);
        due.is("16: the one between is no more", x.where(2, 2), 0);
    }
}
