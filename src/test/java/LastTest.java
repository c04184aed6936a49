/** Promises 14 to 16: lasts, frost, where. */
public final class LastTest {
    private static final Due due = new Due();

    public static void main(String[] args) {
        lasting();
        frosts();
        places();
        due.end();
    }

    private static void lasting() {
        // black of 19 (1 a day), snow of 10 (3 a day), layer of 1 (2 a day)
        SaidInWinter x = Due.lakeOf("n0699;n0315;n0021;");
        due.is("14: the topmost", x.lasts(0, 2), 1);
        due.is("14: the one below, in whole days", x.lasts(0, 1), 5);
        due.is("14: the lowest", x.lasts(0, 0), 24);
        for (int day = 1; day <= 24; day++) {
            x.thaw(1);
            due.is("14: layers behind " + day + " days", x.cell(0, 0), day < 1 ? 3 : day < 5 ? 2 : day < 24 ? 1 : 0);
        }
        due.is("14: no such layer", x.lasts(0, 0), -1);
        due.is("14: lasts(-1, 0)", x.lasts(-1, 0), -1);
        due.is("14: lasts(6, 0)", x.lasts(6, 0), -1);
        SaidInWinter full = Due.lakeOf("n5699;".repeat(8));
        due.is("14: the longest", full.lasts(5, 0), 152);
        due.is("14: lasts(5, 8)", full.lasts(5, 8), -1);
        due.is("14: lasts(5, -1)", full.lasts(5, -1), -1);
        due.is("14: lasts(5, most)", full.lasts(5, Integer.MAX_VALUE), -1);
        due.is("14: cracked with an oath", Due.lakeOf("n1799;").lasts(1, 0), 2);
    }

    private static void frosts() {
        SaidInWinter x = new SaidInWinter();
        due.is("15: plain, 1 day", x.frost(0, 5, 1), 3);
        due.is("15: plain, 4 days", x.frost(0, 5, 4), 9);
        due.is("15: plain, 5 days", x.frost(0, 5, 5), -4);
        due.is("15: clear, 1 day", x.frost(1, 0, 1), 1);
        due.is("15: clear, 9 days", x.frost(1, 0, 9), 9);
        due.is("15: clear, 10 days", x.frost(1, 0, 10), -4);
        due.is("15: forged never", x.frost(2, 0, 1), -4);
        due.is("15: snow, 1 day", x.frost(3, 0, 1), 2);
        due.is("15: snow, 5 days", x.frost(3, 0, 5), 8);
        due.is("15: snow, 6 days", x.frost(3, 0, 6), -4);
        due.is("15: bubbly, 4 days", x.frost(4, 0, 4), 8);
        due.is("15: bubbly, 5 days", x.frost(4, 0, 5), -4);
        due.is("15: salt, 1 day", x.frost(5, 0, 1), 4);
        due.is("15: salt, 2 days", x.frost(5, 0, 2), 7);
        due.is("15: black with 0, 9 days", x.frost(6, 0, 9), 9);
        due.is("15: black with 9, 10 days", x.frost(6, 9, 10), 1);
        due.is("15: black with 9, 5 days", x.frost(6, 9, 5), 1);
        due.is("15: black with 9, 18 days", x.frost(6, 9, 18), 9);
        due.is("15: cracked with 0, 5 days", x.frost(7, 0, 5), 8);
        due.is("15: cracked with 9, 1 day", x.frost(7, 9, 1), 7);
        due.is("15: cracked with 9, 2 days", x.frost(7, 9, 2), -4);
        due.is("15: 99 days", x.frost(6, 9, 99), -4);
        due.is("15: frost(-1, 0, 1)", x.frost(-1, 0, 1), -1);
        due.is("15: frost(8, 0, 1)", x.frost(8, 0, 1), -1);
        due.is("15: frost(0, -1, 1)", x.frost(0, -1, 1), -1);
        due.is("15: frost(0, 10, 1)", x.frost(0, 10, 1), -1);
        due.is("15: frost(0, 0, 0)", x.frost(0, 0, 0), -1);
        due.is("15: frost(0, 0, 100)", x.frost(0, 0, 100), -1);
        due.is("15: nothing freezes", x.count(1), 0);
    }

    private static void places() {
        // oath 1 lies in cell 0 below (gone behind 5 + 1 days), in 2 above (gone behind 1), in 5 (behind 5)
        SaidInWinter x = Due.lakeOf("n0019;n0021;n2029;n2012;n5019;n5013;");
        due.is("16: now", x.where(1, 0), 1 | 4 | 32);
        due.is("16: behind 1 day", x.where(1, 1), 1 | 32);
        due.is("16: behind 5 days", x.where(1, 5), 1 | 32);
        due.is("16: behind 6 days", x.where(1, 6), 32);
        due.is("16: behind 7 days", x.where(1, 7), 0);
        due.is("16: behind 99 days", x.where(1, 99), 0);
        due.is("16: another oath", x.where(2, 5), 4);
        due.is("16: which isn't there", x.where(3, 0), 0);
        due.is("16: oath 0 isn't there", x.where(0, 0), 0);
        due.is("16: oath 9 isn't there", x.where(9, 99), 0);
        due.is("16: where(-1, 0)", x.where(-1, 0), -1);
        due.is("16: where(10, 0)", x.where(10, 0), -1);
        due.is("16: where(0, -1)", x.where(0, -1), -1);
        due.is("16: where(0, 100)", x.where(0, 100), -1);
        due.is("16: nothing melts", x.count(2), 33);
        due.is("16: 99 days, eight black ones", Due.lakeOf("n1699;".repeat(8)).where(9, 99), 2);
    }
}
