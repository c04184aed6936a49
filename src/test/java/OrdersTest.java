/** Promises 17 to 21: thin, spans, disorder, order, joined. */
public final class OrdersTest {
    private static final Due due = new Due();

    public static void main(String[] args) {
        thinOnes();
        spanning();
        unordered();
        orders();
        joining();
        due.end();
    }

    private static void thin(String what, String text, int many, int first) {
        SaidInWinter x = Due.lakeOf(text);
        due.is("17: thin(0): " + what, x.thin(0), many);
        due.is("17: thin(1): " + what, x.thin(1), first);
    }

    private static void thinOnes() {
        thin("two fingers more in both", "n1003;n2001;n3003;", 1, 20);
        thin("one finger more in one", "n1002;n2001;n3003;", 0, -4);
        thin("one finger more in the other", "n1003;n2001;n3002;", 0, -4);
        thin("none in one", "n1003;n2001;", 0, -4);
        thin("cell 5 is beside 0", "n5003;n0001;n1003;", 1, 0);
        thin("cell 0 is beside 5", "n4003;n5001;n0003;", 1, 50);
        thin("another winter in one", "n1003;w;n2001;n3003;", 0, -4);
        thin("of one winter on others", "n1001;w;n1003;n2001;n3003;", 1, 20);
        thin("the lowest such, not a higher one", "n1001;n1009;n2001;n3009;", 0, -4);
        thin("the lowest such counts, a thin one above does not matter", "n1009;n1001;n2001;n3009;", 1, 20);
        thin("several, the lower first", "n1009;n2001;n2002;n3009;n4001;n5009;", 3, 20);
        thin("not the lowest one itself", "n1009;n2008;n2002;n3009;", 1, 21);
        thin("no ice", "w;", 0, -4);
        SaidInWinter x = new SaidInWinter();
        due.is("17: thin(-1)", x.thin(-1), -1);
        due.is("17: thin(2)", x.thin(2), -1);
    }

    private static void spanning() {
        SaidInWinter x = Due.lakeOf("n4002;w;n4003;w;w;n4001;");
        due.is("18: the topmost finger", x.spans(4, 0), 3);
        due.is("18: behind one", x.spans(4, 1), 1);
        due.is("18: behind three", x.spans(4, 3), 1);
        due.is("18: behind four", x.spans(4, 4), 0);
        due.is("18: the lowest finger", x.spans(4, 5), 0);
        due.is("18: below all", x.spans(4, 6), -4);
        due.is("18: far below", x.spans(4, 98), -4);
        due.is("18: no ice", x.spans(3, 0), -4);
        due.is("18: spans(4, -1)", x.spans(4, -1), -1);
        due.is("18: spans(4, 99)", x.spans(4, 99), -1);
        due.is("18: spans(-1, 0)", x.spans(-1, 0), -1);
        due.is("18: spans(6, 0)", x.spans(6, 0), -1);
        due.is("18: 99 fingers deep", Due.lakeOf("w;" + "n0699;".repeat(8)).spans(0, 98), 1);
    }

    private static void unordered() {
        SaidInWinter x = Due.lakeOf("n0001;w;n0001;n1001;w;n0001;d;");
        due.is("19: winters only rise", x.disorder(), 0);
        x.image();
        Due.read(x, "w;n0001;n1001;");
        due.is("19: with another winter on them", x.disorder(), 0);
        x.restore();
        due.is("19: restored", x.disorder(), 0);
        Due.read(x, "n0001;n0001;n0001;");
        due.is("19: of one winter", x.disorder(), 0);
        due.is("19: what freezes then is of the winter restored", x.count(0), 2);
        due.is("19: no ice", new SaidInWinter().disorder(), 0);
    }

    private static void order(String what, String text, int first, int last) {
        SaidInWinter x = Due.lakeOf(text);
        due.is("20: first: " + what, x.order(0), first);
        due.is("20: last: " + what, x.order(1), last);
    }

    private static void orders() {
        order("one", "n0031;", 3, 3);
        order("the lower is ahead", "n0031;n0011;", 3, 1);
        order("of several the least", "n0031;n0011;n1021;", 2, 1);
        order("over cells", "n0051;n0021;n1021;n1071;n2071;n2001;", 5, 0);
        order("one twice", "n0021;n0021;n0011;", 2, 1);
        order("one below and above another", "n0021;n0011;n0021;", -4, -4);
        order("a ring of two cells", "n0021;n0011;n1011;n1021;", -4, -4);
        order("a ring behind a first", "n0001;n0021;n0011;n1011;n1021;", -4, -4);
        order("a ring of three", "n0011;n0021;n1021;n1031;n2031;n2011;", -4, -4);
        order("not neighbours", "n0031;n0021;n0011;n1011;n1041;", 3, 4);
        order("the least last", "n0091;n0001;", 9, 0);
        order("no oath", "w;", -4, -4);
        SaidInWinter x = Due.lakeOf("n0021;n0011;n1011;n1031;");
        due.is("20: order(-1)", x.order(-1), -1);
        due.is("20: order(2)", x.order(2), -1);
        due.is("20: asked again", x.order(0), 2);
        Due.read(x, "n1021;");
        due.is("20: a ring now", x.order(0), -4);
        x.cut(1, 1);
        due.is("20: and it is cut", x.order(1), 3);
    }

    private static void joined(String what, String text, int fingers) {
        SaidInWinter x = Due.lakeOf(text);
        due.is("21: " + what, x.joined(0, 3), fingers);
        due.is("21: the other way: " + what, x.joined(3, 0), fingers);
    }

    private static void joining() {
        joined("no ice", "w;", 0);
        joined("ice in one alone", "n0014;", 0);
        joined("unlike on top", "n0014;n3024;", 0);
        joined("alike, one has no more", "n0014;n3019;", 4);
        joined("alike layers", "n0014;n0023;n3014;n3023;", 7);
        joined("alike fingers of other layers", "n0011;n0012;n0013;n3015;n3011;", 6);
        joined("unlike further down", "n0014;n0023;n3034;n3023;", 3);
        joined("one layer longer than the other", "n0014;n0023;n3014;n3024;", 3);
        joined("other kinds, other winters", "n0114;w;n3015;", 5);
        joined("two seams at one depth", "n0011;n0021;n0031;n3011;n3021;n3031;", 3);
        joined("the same, another below", "n0041;n0021;n0031;n3011;n3021;n3031;", 2);
        SaidInWinter x = Due.lakeOf("n0014;n5014;");
        due.is("21: joined(0, 0)", x.joined(0, 0), -1);
        due.is("21: joined(-1, 0)", x.joined(-1, 0), -1);
        due.is("21: joined(0, -1)", x.joined(0, -1), -1);
        due.is("21: joined(6, 0)", x.joined(6, 0), -1);
        due.is("21: joined(0, 6)", x.joined(0, 6), -1);
        due.is("21: joined(0, 5)", x.joined(0, 5), 4);
        SaidInWinter full = Due.lakeOf("n0699;".repeat(8), "n1699;".repeat(8));
        due.is("21: the most", full.joined(0, 1), 152);
    }
}
