/** Promises 1 to 9: the new object, lake, freeze, thaw, cut, drift, winter, layer, cell. */
public final class LakesTest {
    private static final int[] OUTSIDE_CELLS = {-1, 6, Integer.MIN_VALUE, Integer.MAX_VALUE};
    private static final Due due = new Due();

    public static void main(String[] args) {
        newObject();
        lakeTexts();
        lakeSyntaxFaults();
        lakeStatementFaults();
        lakeRefusals();
        freezing();
        thawing();
        cutting();
        drifting();
        winters();
        layers();
        cells();
        due.end();
    }

    private static void newObject() {
        SaidInWinter x = new SaidInWinter();
        for (int what = 0; what < 5; what++) {
            due.is("1: count(" + what + ")", x.count(what), 0);
        }
        for (int c = 0; c < 6; c++) {
            due.is("1: cell(" + c + ", 0)", x.cell(c, 0), 0);
            due.is("1: cell(" + c + ", 1)", x.cell(c, 1), 0);
        }
        for (int d = 0; d < 8; d++) {
            due.is("1: toll(" + d + ")", x.toll(d), -11);
        }
        due.is("1: restore()", x.restore(), -3);
    }

    private static void lakeTexts() {
        SaidInWinter x = new SaidInWinter();
        due.is("2: one statement", Due.read(x, "n3456;"), 1);
        due.is("2: its kind", x.layer(3, 0, 0), 4);
        due.is("2: its oath", x.layer(3, 0, 1), 5);
        due.is("2: its fingers", x.layer(3, 0, 3), 7);
        due.is("2: the row stays", x.element(0, 5), ';');
        due.is("2: read again it comes again", x.lake(0), 1);
        due.is("2: two layers then", x.cell(3, 0), 2);
        due.is("2: w, d, t and c", Due.read(x, "w;d;t1;c405;"), 4);
        due.is("2: the winter", x.count(0), 1);
        due.is("2: 14 less 3 (it melts 2) less 5", x.cell(4, 1), 7);
        due.is("2: nothing is left in cell 3", x.cell(3, 0), 0);
        due.is("2: two digits of fingers", Due.read(x, "n1009;n1009;c114;"), 3);
        due.is("2: 18 less 14", x.cell(1, 1), 4);

        String eight = "n0001;".repeat(8);
        due.is("2: room again behind a thaw", Due.read(new SaidInWinter(), eight + "t8;n0001;"), 10);
        due.is("2: room again behind a cut", Due.read(new SaidInWinter(), eight + "c001;n0001;"), 10);
        due.is("2: room again behind a drift", Due.read(new SaidInWinter(), eight + "d;n0001;"), 10);
        due.is("2: fifty statements", Due.read(new SaidInWinter(), "w;".repeat(50)), 50);
        due.is("2: days 9, 99 fingers", Due.read(new SaidInWinter(), "t9;c599;n5799;"), 3);
        SaidInWinter wide = new SaidInWinter();
        wide.row(0, 0, 2);
        wide.put(0, 0, 'w' + 256);
        wide.put(0, 1, ';' - 256);
        due.is("2: lowest bits make the text", wide.lake(0), 1);
    }

    private static void syntax(String text, int place) {
        SaidInWinter x = Due.lakeOf("n0011;w;");
        String before = Due.told(x);
        due.is("2: lake(\"" + text + "\")", Due.read(x, text), -1000 - place);
        due.holds("2: nothing comes of " + text, before.equals(Due.told(x)));
    }

    private static void lakeSyntaxFaults() {
        syntax("", 0);
        syntax("z", 0);
        syntax(";", 0);
        syntax("W;", 0);
        syntax(" w;", 0);
        syntax("0", 0);
        for (String whole : new String[] {"n0001;", "t1;", "c001;", "d;", "w;"}) {
            for (int size = 1; size < whole.length(); size++) {
                String begun = whole.substring(0, size);
                syntax(begun, size);
                syntax(begun + "x", size);
                syntax(begun + (size == whole.length() - 1 ? "0" : ";"), size);
                syntax("w;" + begun, 2 + size);
            }
            syntax(whole + ";", whole.length());
            syntax(whole + whole + "\u0000", 2 * whole.length());
            syntax(whole + "\u00ee", whole.length());
        }
        syntax("n00/1;", 3);
        syntax("n00:1;", 3);
        syntax("t0;z", 3);
        syntax("n9999;n000", 10);
        syntax("w;".repeat(49) + "t1", 100);
    }

    private static void statement(String text, int place) {
        SaidInWinter x = Due.lakeOf("n0011;w;");
        String before = Due.told(x);
        due.is("2: lake(\"" + text + "\")", Due.read(x, text), -2000 - place);
        due.holds("2: nothing comes of " + text, before.equals(Due.told(x)));
    }

    private static void lakeStatementFaults() {
        statement("n6001;", 0);
        statement("n9001;", 0);
        statement("n0801;", 0);
        statement("n0900;", 0);
        statement("n0000;", 0);
        statement("t0;", 0);
        statement("c000;", 0);
        statement("c601;", 0);
        statement("w;d;n1234;t1;c199;t0;", 18);
        statement("w;n6001;t0;", 2);
        statement("n0001;".repeat(8), 42);
        statement("n1001;".repeat(9), 48);
        statement("n5001;".repeat(7) + "d;" + "n0001;".repeat(8), 42 + 2 + 6);

        SaidInWinter x = Due.lakeOf("w;".repeat(50), "w;".repeat(48));
        due.is("2: winters that go above 99", Due.read(x, "n0001;w;w;"), -2008);
        due.is("2: none of them came", x.count(0), 98);
        due.is("2: no layer, too", x.count(1), 0);
        due.is("2: the last winter", Due.read(x, "w;"), 1);
        due.is("2: none above 99", Due.read(x, "w;"), -2000);
    }

    private static void lakeRefusals() {
        SaidInWinter x = new SaidInWinter();
        due.is("2: lake(-1)", x.lake(-1), -1);
        due.is("2: lake(8)", x.lake(8), -1);
        due.is("2: lake(7) of nothing", x.lake(7), -11);
        x.keep(7, 1, 0, 0);
        due.is("2: lake(7) of a layer", x.lake(7), -12);
        x.row(7, 1, 0);
        due.is("2: lake(7) of shorts", x.lake(7), -12);
        x.row(7, 2, 0);
        due.is("2: lake(7) of ints", x.lake(7), -12);
        x.row(7, 0, 0);
        due.is("2: lake(7) of no bytes", x.lake(7), -1000);
        x.keep(7, 0, 0, 0);
        due.is("2: lake(7) of nothing again", x.lake(7), -11);
    }

    private static void thick(int kind, int oath, int... fingers) {
        int[] frosts = {1, 2, 5, 9};
        for (int i = 0; i < frosts.length; i++) {
            SaidInWinter x = new SaidInWinter();
            x.keep(2, 1, kind, oath);
            due.is("3: kind " + kind + " oath " + oath + " frost " + frosts[i], x.freeze(2, 4, frosts[i]), fingers[i]);
            due.is("3: its kind", x.layer(4, 0, 0), kind);
            due.is("3: its oath", x.layer(4, 0, 1), oath);
            due.is("3: its fingers", x.layer(4, 0, 3), fingers[i]);
            due.is("3: what is on the shelf stays", x.freeze(2, 4, frosts[i]), fingers[i]);
        }
    }

    private static void freezing() {
        for (int oath = 0; oath < 10; oath++) {
            thick(0, oath, 1, 2, 5, 9);
            thick(1, oath, 2, 3, 6, 10);
            thick(2, oath, 1, 1, 2, 4);
            thick(3, oath, 2, 4, 10, 18);
            thick(4, oath, 2, 3, 6, 10);
            thick(5, oath, 1, 3, 9, 17);
            thick(6, oath, 2 + oath, 3 + oath, 6 + oath, 10 + oath);
            thick(7, oath, 2, 4, 10, 18);
        }
        SaidInWinter x = new SaidInWinter();
        for (int c : OUTSIDE_CELLS) {
            due.is("3: freeze(0, " + c + ", 1)", x.freeze(0, c, 1), -1);
        }
        due.is("3: freeze(0, 0, 0)", x.freeze(0, 0, 0), -1);
        due.is("3: freeze(0, 0, 10)", x.freeze(0, 0, 10), -1);
        due.is("3: freeze(-1, 0, 1)", x.freeze(-1, 0, 1), -1);
        due.is("3: freeze(8, 0, 1)", x.freeze(8, 0, 1), -1);
        due.is("3: freeze(0, 0, 1) of nothing", x.freeze(0, 0, 1), -11);
        x.row(0, 0, 1);
        due.is("3: freeze(0, 0, 1) of a row", x.freeze(0, 0, 1), -12);
        x.keep(1, 1, 0, 0);
        for (int i = 0; i < 8; i++) {
            due.is("3: layer " + i, x.freeze(1, 5, 1), 1);
        }
        due.is("3: no room", x.freeze(1, 5, 1), -2);
        due.is("3: -1 goes ahead of no room", x.freeze(1, 5, 10), -1);
        due.is("3: -11 goes ahead of no room", x.freeze(2, 5, 1), -11);
        due.is("3: -12 goes ahead of no room", x.freeze(0, 5, 1), -12);
        due.is("3: eight layers", x.cell(5, 0), 8);
    }

    private static void melts(int kind, int oath, int melts) {
        SaidInWinter x = new SaidInWinter();
        x.keep(0, 1, kind, oath);
        x.freeze(0, 0, 9);
        int fingers = x.cell(0, 1);
        due.is("4: thaw of kind " + kind + " oath " + oath, x.thaw(1), fingers > melts ? 0 : 1);
        due.is("4: what is left of kind " + kind + " oath " + oath, x.cell(0, 1), Math.max(0, fingers - melts));
    }

    private static void thawing() {
        for (int oath = 0; oath < 10; oath++) {
            melts(0, oath, 2);
            melts(1, oath, 1);
            melts(2, oath, 4);
            melts(3, oath, 3);
            melts(4, oath, 2);
            melts(5, oath, 6);
            melts(6, oath, 1);
            melts(7, oath, 3 + oath);
        }
        SaidInWinter x = Due.lakeOf("n0005;n0003;n1111;n5221;");
        due.is("4: first day", x.thaw(1), 1);
        due.is("4: of the topmost alone", x.layer(0, 1, 3), 1);
        due.is("4: the one below loses nothing", x.layer(0, 0, 3), 5);
        due.is("4: in each cell", x.cell(1, 1), 1);
        due.is("4: second day", x.thaw(1), 2);
        due.is("4: the one below still has all", x.cell(0, 1), 5);
        due.is("4: two days more", x.thaw(2), 0);
        due.is("4: one finger is left", x.cell(0, 1), 1);
        due.is("4: many days", x.thaw(99), 1);
        due.is("4: of no ice", x.thaw(99), 0);
        due.is("4: thaw(0)", x.thaw(0), -1);
        due.is("4: thaw(100)", x.thaw(100), -1);
        due.is("4: thaw(-1)", x.thaw(-1), -1);
        due.is("4: thaw of the least int", x.thaw(Integer.MIN_VALUE), -1);
        SaidInWinter full = Due.lakeOf("n0699;".repeat(8));
        due.is("4: 99 days of eight black layers", full.thaw(99), 5);
        due.is("4: 8 times 19 less 99", full.cell(0, 1), 53);
    }

    private static void cutting() {
        SaidInWinter x = Due.lakeOf("n0015;n0024;n0033;n1019;");
        due.is("5: a part of the topmost", x.cut(0, 2), 0);
        due.is("5: one finger of it is left", x.layer(0, 2, 3), 1);
        due.is("5: through it and into the next", x.cut(0, 2), 1);
        due.is("5: three fingers are left of that", x.layer(0, 1, 3), 3);
        due.is("5: just through", x.cut(0, 3), 1);
        due.is("5: the lowest has all", x.layer(0, 0, 3), 5);
        due.is("5: all, if there are fewer", x.cut(0, 99), 1);
        due.is("5: of no ice", x.cut(0, 1), 0);
        due.is("5: other cells stay", x.cell(1, 1), 9);
        for (int c : OUTSIDE_CELLS) {
            due.is("5: cut(" + c + ", 1)", x.cut(c, 1), -1);
        }
        due.is("5: cut(1, 0)", x.cut(1, 0), -1);
        due.is("5: cut(1, 100)", x.cut(1, 100), -1);
        due.is("5: cut(1, -5)", x.cut(1, -5), -1);
        due.is("5: refused it cuts nothing", x.cell(1, 1), 9);
        SaidInWinter full = Due.lakeOf("n0699;".repeat(8));
        due.is("5: 99 fingers of 152", full.cut(0, 99), 5);
        due.is("5: 53 are left", full.cell(0, 1), 53);
    }

    private static void drifting() {
        SaidInWinter x = Due.lakeOf("n0011;n0012;n1023;n4034;n5045;n5056;n5067;");
        due.is("6: layers of cell 0 then", x.drift(), 3);
        int[] layers = {3, 2, 1, 0, 0, 1};
        int[] ice = {18, 3, 3, 0, 0, 4};
        for (int c = 0; c < 6; c++) {
            due.is("6: layers of cell " + c, x.cell(c, 0), layers[c]);
            due.is("6: ice of cell " + c, x.cell(c, 1), ice[c]);
        }
        due.is("6: the order of layers stays", x.layer(0, 0, 1), 4);
        due.is("6: second drift", x.drift(), 1);
        for (int i = 0; i < 4; i++) {
            x.drift();
        }
        due.is("6: six drifts bring all back", x.cell(0, 1), 3);
        due.is("6: cell 5 too", x.cell(5, 1), 18);
        due.is("6: no ice", new SaidInWinter().drift(), 0);
    }

    private static void winters() {
        SaidInWinter x = new SaidInWinter();
        for (int winter = 1; winter <= 99; winter++) {
            due.is("7: winter()", x.winter(), winter);
        }
        due.is("7: above 99", x.winter(), -2);
        due.is("7: it stays 99", x.count(0), 99);
        x.keep(0, 1, 0, 1);
        x.freeze(0, 0, 1);
        due.is("7: what freezes now is of 99", x.layer(0, 0, 2), 99);
    }

    private static void readable(int kind, int oath, int light) {
        SaidInWinter x = new SaidInWinter();
        x.keep(0, 1, kind, oath);
        x.keep(1, 1, 0, 0);
        x.freeze(0, 3, 1);
        int left = light;
        while (left > 0) {
            left -= x.freeze(1, 3, Math.min(9, left));
        }
        due.is("8: depth of kind " + kind, x.layer(3, 0, 4), light);
        due.is("8: kind " + kind + " oath " + oath + " reads at " + light, x.layer(3, 0, 5), 1);
        x.freeze(1, 3, 1);
        due.is("8: kind " + kind + " oath " + oath + " not deeper", x.layer(3, 0, 5), 0);
    }

    private static void layers() {
        for (int oath = 0; oath < 10; oath++) {
            readable(0, oath, 9);
            readable(1, oath, 14);
            readable(2, oath, 9);
            readable(3, oath, 3);
            readable(4, oath, 14 - oath);
            readable(5, oath, 3);
            readable(6, oath, 28);
            readable(7, oath, 0);
        }
        SaidInWinter x = Due.lakeOf("n2394;w;n2642;");
        int[] lower = {3, 9, 0, 8, 7, 0};
        int[] upper = {6, 4, 1, 7, 0, 1};
        for (int what = 0; what < 6; what++) {
            due.is("8: layer(2, 0, " + what + ")", x.layer(2, 0, what), lower[what]);
            due.is("8: layer(2, 1, " + what + ")", x.layer(2, 1, what), upper[what]);
        }
        due.is("8: layer(2, 2, 0)", x.layer(2, 2, 0), -1);
        due.is("8: layer(2, -1, 0)", x.layer(2, -1, 0), -1);
        due.is("8: layer(2, 0, 6)", x.layer(2, 0, 6), -1);
        due.is("8: layer(2, 0, -1)", x.layer(2, 0, -1), -1);
        due.is("8: layer(1, 0, 0)", x.layer(1, 0, 0), -1);
        due.is("8: layer(2, 8, 0)", x.layer(2, 8, 0), -1);
        due.is("8: layer(2, most, 0)", x.layer(2, Integer.MAX_VALUE, 0), -1);
        for (int c : OUTSIDE_CELLS) {
            due.is("8: layer(" + c + ", 0, 0)", x.layer(c, 0, 0), -1);
        }
    }

    private static void cells() {
        SaidInWinter x = Due.lakeOf("n5015;n5729;");
        due.is("9: layers", x.cell(5, 0), 2);
        due.is("9: ice", x.cell(5, 1), 23);
        due.is("9: of none", x.cell(4, 1), 0);
        due.is("9: cell(5, 2)", x.cell(5, 2), -1);
        due.is("9: cell(5, -1)", x.cell(5, -1), -1);
        for (int c : OUTSIDE_CELLS) {
            due.is("9: cell(" + c + ", 0)", x.cell(c, 0), -1);
        }
        due.is("9: the most ice", Due.lakeOf("n0699;".repeat(8)).cell(0, 1), 152);
    }
}
