/** Promises 10 to 13: holds, latest, seen, holes. */
public final class ReadTest {
    private static final Due due = new Due();

    public static void main(String[] args) {
        holding();
        latestOnes();
        seeing();
        holing();
        due.end();
    }

    private static void holding() {
        SaidInWinter x = Due.lakeOf("n0013;n0023;n1779;");
        due.is("10: the topmost of two", x.holds(0), 2);
        due.is("10: a cracked one on top", x.holds(1), 7);
        due.is("10: no layer", x.holds(2), -4);
        due.is("10: holds(-1)", x.holds(-1), -1);
        due.is("10: holds(6)", x.holds(6), -1);
        x.cut(0, 3);
        due.is("10: it is cut away", x.holds(0), 1);
        due.is("10: oath 0 holds, too", Due.lakeOf("n3001;").holds(3), 0);
    }

    private static void latestOnes() {
        SaidInWinter x = Due.lakeOf("n4011;n4011;n2021;n4021;n2011;n2011;");
        due.is("11: least cell, then the highest", x.latest(1), 22);
        due.is("11: of another", x.latest(2), 20);
        due.is("11: none", x.latest(3), -4);
        Due.read(x, "w;n5011;");
        due.is("11: the greatest winter", x.latest(1), 50);
        Due.read(x, "n4021;n4011;");
        due.is("11: a lesser cell of that winter", x.latest(1), 44);
        Due.read(x, "w;n4031;");
        due.is("11: others do not matter", x.latest(1), 44);
        due.is("11: latest(-1)", x.latest(-1), -1);
        due.is("11: latest(10)", x.latest(10), -1);
        due.is("11: latest(0)", x.latest(0), -4);
        due.is("11: latest(9) of a new one", new SaidInWinter().latest(9), -4);
        due.is("11: cell 0, the lowest", Due.lakeOf("n0091;n0001;n1091;").latest(9), 0);
        due.is("11: the eighth layer", Due.lakeOf("n5091;".repeat(8)).latest(9), 57);
    }

    private static void seeing() {
        // cell 0 from the top: 3 of oath 5, 9 of oath 4 (snow: light 3), 4 of oath 1; cell 3: oath 0
        SaidInWinter x = Due.lakeOf("n0014;n0345;n0053;n3001;");
        due.is("12: bare", x.seen(1, 0), 1 << 5 | 1 << 4);
        due.is("12: of no cells", x.seen(0, 0), 0);
        due.is("12: of a cell without ice", x.seen(2, 0), 0);
        due.is("12: of all", x.seen(63, 0), 1 << 5 | 1 << 4 | 1);
        due.is("12: one finger is left on top", x.seen(1, 2), 1 << 5 | 1 << 4);
        due.is("12: the topmost is cut through", x.seen(1, 3), 1 << 4);
        due.is("12: snow of ten, four cut", x.seen(1, 4), 1 << 4 | 1 << 1);
        due.is("12: snow of ten, nine cut", x.seen(1, 12), 1 << 4 | 1 << 1);
        due.is("12: snow is cut through", x.seen(1, 13), 1 << 1);
        due.is("12: one finger of all", x.seen(1, 16), 1 << 1);
        due.is("12: all is cut", x.seen(1, 17), 0);
        due.is("12: all is cut with more", x.seen(63, 99), 0);
        due.is("12: in mind alone", x.cell(0, 1), 17);
        due.is("12: seen(-1, 0)", x.seen(-1, 0), -1);
        due.is("12: seen(64, 0)", x.seen(64, 0), -1);
        due.is("12: seen(63, -1)", x.seen(63, -1), -1);
        due.is("12: seen(63, 100)", x.seen(63, 100), -1);
        SaidInWinter cracked = Due.lakeOf("n1711;n1025;");
        due.is("12: cracked ice reads only bare", cracked.seen(2, 4), 1 << 2);
        due.is("12: bare it does", cracked.seen(2, 5), 1 << 1);
        due.is("12: cell 5, too", Due.lakeOf("n5091;").seen(32, 0), 512);
    }

    private static void holing() {
        SaidInWinter x = Due.lakeOf("n0011;n1021;n2011;n2021;n3031;n4031;");
        due.is("13: none is told", x.holes(0, 0), 0);
        due.is("13: the least of several", x.holes(2, 0), 1);
        due.is("13: fewest go ahead of least", x.holes(6, 0), 4);
        due.is("13: two of them", x.holes(10, 0), 9);
        due.is("13: two with one for both", x.holes(14, 0), 12);
        due.is("13: an oath there is not", x.holes(16, 0), -4);
        due.is("13: thin cells are cut through", x.holes(2, 1), 4);
        due.is("13: all cells are cut through", x.holes(2, 2), -4);
        due.is("13: the lower of two by a hole", Due.lakeOf("n2711;n2021;n0021;").holes(2, 1), 4);
        due.is("13: which isn't read without", Due.lakeOf("n2711;n2021;n0021;").holes(2, 0), -4);
        due.is("13: none told, all cut", x.holes(0, 99), 0);
        due.is("13: holes(-1, 0)", x.holes(-1, 0), -1);
        due.is("13: holes(1024, 0)", x.holes(1024, 0), -1);
        due.is("13: holes(1, -1)", x.holes(1, -1), -1);
        due.is("13: holes(1, 100)", x.holes(1, 100), -1);
        due.is("13: it changes nothing", x.count(1), 6);
        SaidInWinter all = Due.lakeOf("n0001;n1011;n2021;n3031;n4041;n5051;");
        due.is("13: all six", all.holes(63, 0), 63);
        due.is("13: all ten", all.holes(1023, 0), -4);
    }
}
