import java.lang.reflect.Field;

/** Promises 17 to 21, sentence by sentence, where the document names an edge. */
public final class OrdersEdgeTest {
    private static final Due due = new Due();
    private static final Edges edges = new Edges(due);

    public static void main(String[] args) throws ReflectiveOperationException {
        thinRange();
        thinNone();
        thinTwoFingersMore();
        thinBothCellsBeside();
        thinRoundTheEnd();
        thinOfItsWinter();
        thinLowestSuch();
        thinFirst();
        spansRanges();
        spansSeams();
        spansNoIce();
        disorderNone();
        disorderByHand();
        orderRange();
        orderNoOath();
        orderNoSuchRow();
        orderUnlikeOathsOfOneCell();
        orderLeastNext();
        orderAskedAgain();
        joinedRanges();
        joinedOneTwice();
        joinedTillTheyAreNot();
        joinedOneHasNoMore();
        due.end();
    }

    private static void thin(String what, String text, int many, int first) {
        SaidInWinter x = Due.lakeOf(text);
        due.is("17: how many: " + what, x.thin(0), many);
        due.is("17: the first: " + what, x.thin(1), first);
    }

    // 17: "how many (what 0), the first (1; -4). -1"

    private static void thinRange() {
        edges.range("17: thin", 0, 1, SaidInWinter::thin);
        edges.range("17: thin of no ice", 0, 1, SaidInWinter::new, SaidInWinter::thin);
        edges.tellsAlone("17: thin", x -> x.thin(1));
    }

    private static void thinNone() {
        thin("no ice", "w;", 0, -4);
        thin("one layer", "n0001;", 0, -4);
        thin("all alike", "n0001;n1001;n2001;n3001;n4001;n5001;", 0, -4);
    }

    // 17: "has 2 FINGERS more than it at least"

    private static void thinTwoFingersMore() {
        for (int before = 4; before <= 8; before++) {
            for (int behind = 4; behind <= 8; behind++) {
                boolean isThin = before >= 7 && behind >= 7;
                thin("5 between " + before + " and " + behind, "n200" + before + ";n3005;n400" + behind + ";",
                    isThin ? 1 : 0, isThin ? 30 : -4);
            }
        }
        thin("the least beside the most", "n1699;n2001;n3699;", 1, 20);
        SaidInWinter x = Due.lakeOf("n1005;n2005;n3005;");
        x.cut(2, 1);
        due.is("17: cut by one", x.thin(0), 0);
        x.cut(2, 1);
        due.is("17: cut by two", x.thin(0), 1);
    }

    // 17: "there is in both CELLS beside one of its WINTER"

    private static void thinBothCellsBeside() {
        thin("none before", "n2001;n3009;", 0, -4);
        thin("none behind", "n1009;n2001;", 0, -4);
        thin("in cells not beside", "n0009;n2001;n4009;", 0, -4);
        thin("in its own cell", "n2009;n2001;n2009;", 0, -4);
    }

    // "5 is beside 0, too"

    private static void thinRoundTheEnd() {
        for (int c = 0; c < 6; c++) {
            int before = (c + 5) % 6;
            int behind = (c + 1) % 6;
            thin("cell " + c, "n" + before + "003;n" + c + "001;n" + behind + "003;", 1, 10 * c);
        }
    }

    private static void thinOfItsWinter() {
        thin("another winter before", "n1009;w;n2001;n3009;", 0, -4);
        thin("another winter behind", "n3009;w;n2001;n1009;", 0, -4);
        thin("it is of another winter", "n2001;w;n1009;n3009;", 0, -4);
        thin("each of its own", "n1009;n2001;n3009;w;n1009;n2001;n3009;", 2, 20);
        thin("one of two winters", "n1009;n2001;n3009;w;n1002;n2001;n3009;", 1, 20);
        thin("the other of two winters", "n1002;n2001;n3009;w;n1009;n2001;n3009;", 1, 21);
        thin("winter 99", "w;".repeat(20), "n1009;n2001;n3009;", 79);
    }

    private static void thin(String what, String winters, String text, int more) {
        SaidInWinter x = Due.lakeOf(winters);
        for (int i = 0; i < more; i++) {
            x.winter();
        }
        Due.read(x, text);
        due.is("17: how many: " + what, x.thin(0), 1);
        due.is("17: the first: " + what, x.thin(1), 20);
    }

    // 17: "of which the lowest such"

    private static void thinLowestSuch() {
        thin("the lowest one before is too thin", "n1002;n1009;n2001;n3009;", 0, -4);
        thin("the lowest one behind is too thin", "n1009;n2001;n3002;n3009;", 0, -4);
        thin("the lowest ones are thick", "n1009;n1001;n2001;n3009;n3001;", 1, 20);
        thin("the lowest of that winter lies on others", "n1001;n3001;w;n1009;n3009;n2001;", 1, 20);
        SaidInWinter x = Due.lakeOf("n1009;n1001;n2001;n3009;");
        x.thaw(1);
        due.is("17: the lowest is the topmost, too", x.thin(0), 0);
    }

    private static void thinFirst() {
        thin("the lower of two", "n1009;n2001;n2002;n3009;", 2, 20);
        thin("the upper of two alone", "n1004;n2003;n2002;n3004;", 1, 21);
        thin("the least cell", "n3001;n2009;n4009;n0001;n5009;n1009;", 2, 0);
        thin("the last place", "n4009;n5009;n5009;n5009;n5009;n5009;n5009;n5009;n5001;n0009;", 1, 57);
        thin("all eight of a cell", "n4009;" + "n5001;".repeat(8) + "n0009;", 8, 50);
    }

    // 18: "a DEPTH (FINGERS above; 0 .. 98) of a CELL"; "-4. -1"

    private static void spansRanges() {
        edges.range("18: spans of cell", 0, 5, (x, v) -> x.spans(v, 0));
        edges.range("18: spans at", 0, 98, (x, v) -> x.spans(0, v));
        edges.refused("18: neither is as told", -1, x -> x.spans(6, 99));
        edges.refused("18: no ice, no such depth", -1, x -> x.spans(1, 99));
        edges.tellsAlone("18: spans", x -> x.spans(0, 7));
    }

    private static void spansSeams() {
        // from the top: 2 fingers of winter 3, 1 of winter 2, 3 of winter 0
        SaidInWinter x = Due.lakeOf("n4003;w;w;n4001;w;n4002;");
        int[] winters = {3, 3, 2, 0, 0, 0, -4, -4};
        for (int depth = 0; depth < winters.length; depth++) {
            due.is("18: at " + depth, x.spans(4, depth), winters[depth]);
        }
        x.cut(4, 1);
        for (int depth = 0; depth < winters.length - 1; depth++) {
            due.is("18: cut by one, at " + depth, x.spans(4, depth), winters[depth + 1]);
        }
    }

    private static void spansNoIce() {
        for (int c = 0; c < 6; c++) {
            due.is("18: no ice in cell " + c, new SaidInWinter().spans(c, 0), -4);
            due.is("18: no ice in cell " + c + ", deepest", new SaidInWinter().spans(c, 98), -4);
            SaidInWinter x = Edges.piled(1, c, 0, 0, 1);
            due.is("18: one finger in cell " + c, x.spans(c, 0), 0);
            due.is("18: behind that finger", x.spans(c, 1), -4);
        }
        SaidInWinter x = new SaidInWinter();
        Edges.freeze(x, 0, 0, 0, 4);
        for (int i = 0; i < 5; i++) {
            Edges.freeze(x, 0, 6, 9, 9);
        }
        due.is("18: the last of 99 fingers", x.spans(0, 98), 0);
        x.cut(0, 1);
        due.is("18: behind the last of 98", x.spans(0, 98), -4);
        due.is("18: the last of 98", x.spans(0, 97), 0);
    }

    // 19: "how many pairs of neighbouring layers there are in all CELLS, of which the upper one has a lesser WINTER"

    private static void disorderNone() {
        due.is("19: no ice", new SaidInWinter().disorder(), 0);
        due.is("19: layers of one winter", Edges.piled(8, 0, 0, 0, 1).disorder(), 0);
        SaidInWinter x = new SaidInWinter();
        for (int i = 0; i < 8; i++) {
            Edges.freeze(x, 0, 0, 0, 1);
            x.winter();
        }
        due.is("19: layers of rising winters", x.disorder(), 0);
        x.image();
        x.winter();
        Edges.freeze(x, 1, 0, 0, 1);
        x.restore();
        Edges.freeze(x, 1, 0, 0, 1);
        due.is("19: the winter restored is no less than any there is", x.disorder(), 0);
        edges.tellsAlone("19: disorder", SaidInWinter::disorder);
    }

    /** No run of calls makes any, so the WINTER is set back by hand: else nothing would tell that it is counted. */
    private static void disorderByHand() throws ReflectiveOperationException {
        SaidInWinter x = new SaidInWinter();
        int[][] winters = {{5, 4}, {4, 4, 5}, {5, 4, 5, 4}, {9, 8, 7, 6, 5, 4, 3, 2}, {0, 99}, {99, 0}};
        int[] pairs = {1, 0, 2, 7, 0, 1};
        int all = 0;
        for (int c = 0; c < winters.length; c++) {
            for (int winter : winters[c]) {
                setWinter(x, winter);
                Edges.freeze(x, c, 0, 0, 1);
            }
            all += pairs[c];
            due.is("19: with cell " + c, x.disorder(), all);
        }
        x.cut(0, 1);
        due.is("19: the upper one of a pair is no more", x.disorder(), all - 1);
    }

    private static void setWinter(SaidInWinter x, int winter) throws ReflectiveOperationException {
        Field now = SaidInWinter.class.getDeclaredField("now");
        now.setAccessible(true);
        Object lake = now.get(x);
        Field ofLake = lake.getClass().getDeclaredField("winter");
        ofLake.setAccessible(true);
        ofLake.setInt(lake, winter);
    }

    private static void order(String what, String text, int first, int last) {
        SaidInWinter x = Due.lakeOf(text);
        due.is("20: the first: " + what, x.order(0), first);
        due.is("20: the last: " + what, x.order(1), last);
    }

    // 20: "the first OATH (what 0), the last (1); -4. -1"

    private static void orderRange() {
        edges.range("20: order", 0, 1, SaidInWinter::order);
        edges.range("20: order of no oath", 0, 1, SaidInWinter::new, SaidInWinter::order);
        edges.tellsAlone("20: order", x -> x.order(1));
    }

    private static void orderNoOath() {
        order("no oath", "w;", -4, -4);
        SaidInWinter x = Edges.piled(1, 0, 0, 0, 1);
        due.is("20: oath 0 is one", x.order(0), 0);
        due.is("20: oath 0 is the last, too", x.order(1), 0);
        x.cut(0, 1);
        due.is("20: none any more", x.order(0), -4);
        due.is("20: none any more, of the last", x.order(1), -4);
        order("oath 9 alone", "n5091;", 9, 9);
    }

    private static void orderNoSuchRow() {
        order("each below the other in one cell", "n0011;n0021;n0011;", -4, -4);
        order("each below the other in two cells", "n0011;n0021;n5021;n5011;", -4, -4);
        order("a ring of ten", "n0001;n0011;n0021;n0031;n0041;n0051;n0061;n0071;n1071;n1081;n1091;n1001;", -4, -4);
        order("a ring behind others that could be placed", "n0001;n0011;n0021;n0011;", -4, -4);
        order("a ring of two that others wait for", "n0071;n0081;n0071;n0001;n1011;", -4, -4);
        for (int one = 0; one < 10; one++) {
            for (int other = 0; other < one; other++) {
                String ring = "n00" + one + "1;n00" + other + "1;n00" + one + "1;n2041;";
                order("a ring of " + one + " and " + other, ring, -4, -4);
            }
        }
    }

    /** What one lake told of those ahead is not kept for the next one. */
    private static void orderAskedAgain() {
        SaidInWinter x = Due.lakeOf("n0021;n0011;n5051;");
        due.is("20: 2 is ahead of 1", x.order(0), 2);
        x.cut(0, 2);
        Edges.freeze(x, 0, 0, 1, 1);
        Edges.freeze(x, 0, 0, 2, 1);
        due.is("20: 1 is ahead of 2 now", x.order(0), 1);
        due.is("20: and 5 is the last", x.order(1), 5);
        Edges.freeze(x, 0, 0, 1, 1);
        due.is("20: a ring now", x.order(1), -4);
        x.cut(0, 1);
        due.is("20: none again", x.order(1), 5);
    }

    // 20: "of any two layers of one CELL with unlike OATHS, that of the lower one is ahead"

    private static void orderUnlikeOathsOfOneCell() {
        order("alike ones one on another", "n0031;n0031;", 3, 3);
        order("alike ones eight times", "n0031;".repeat(8), 3, 3);
        order("alike ones in many cells", "n0031;n1031;n5031;", 3, 3);
        order("not of neighbours alone", "n0091;n0051;n0011;n1011;", 9, 1);
        order("the lowest and the topmost of eight", "n0091;n0081;n0071;n0061;n0051;n0041;n0031;n0021;", 9, 2);
        order("not of two cells", "n0091;n1081;", 8, 9);
    }

    private static void orderLeastNext() {
        order("all free", "n0091;n1071;n2051;n3031;n4011;n5001;", 0, 9);
        order("the least of two free ones", "n0091;n0001;n1051;", 5, 0);
        order("one that gets free goes ahead of greater ones", "n0021;n0001;n1091;", 2, 9);
        order("ten", "n0091;n0081;n1081;n1071;n2071;n2061;n3061;n3051;n4051;n4041;n5041;n5031;n0031;n0021;n1021;n1011;",
            9, 1);
        SaidInWinter ten = Due.lakeOf("n0091;n0081;n0071;n0061;n0051;n0041;n0031;n0021;", "n1021;n1011;n1001;");
        due.is("20: all ten from 9 on", ten.order(0), 9);
        due.is("20: all ten to 0", ten.order(1), 0);
    }

    private static void joined(String what, String text, int fingers) {
        SaidInWinter x = Due.lakeOf(text);
        due.is("21: " + what, x.joined(1, 4), fingers);
        due.is("21: the other way: " + what, x.joined(4, 1), fingers);
    }

    // 21: "-1 (one twice, too)"

    private static void joinedRanges() {
        edges.range("21: joined of one", 0, 4, (x, v) -> x.joined(v, 5));
        edges.range("21: joined of the other", 0, 4, (x, v) -> x.joined(5, v));
        edges.range("21: joined with cell 0", 1, 5, (x, v) -> x.joined(0, v));
        edges.range("21: cell 0 joined", 1, 5, (x, v) -> x.joined(v, 0));
        edges.tellsAlone("21: joined", x -> x.joined(0, 2));
    }

    private static void joinedOneTwice() {
        for (int v = -1; v <= 6; v++) {
            int c = v;
            edges.refused("21: twice " + c, -1, x -> x.joined(c, c));
        }
        edges.refused("21: neither is there", -1, x -> x.joined(6, -1));
    }

    // 21: "(OATHS of each FINGER; one behind the other, till they are not ..)"

    private static void joinedTillTheyAreNot() {
        joined("unlike at once", "n1019;n4029;", 0);
        joined("alike below alone", "n1019;n1021;n4019;n4031;", 0);
        joined("one finger", "n1019;n1021;n4039;n4021;", 1);
        joined("alike on top, alike again below an unlike one", "n1019;n1021;n1031;n4019;n4041;n4031;", 1);
        joined("a layer of one is two of the other", "n1019;n1024;n4019;n4022;n4022;", 13);
        joined("till one goes on where the other does not", "n1019;n1024;n4019;n4023;", 3);
        joined("oath 0", "n1004;n4004;", 4);
    }

    // 21: "or one has no more"

    private static void joinedOneHasNoMore() {
        joined("neither has any", "w;", 0);
        joined("one has none", "n1019;", 0);
        joined("of oath 0 one has none", "n1009;", 0);
        joined("as many of both", "n1013;n4013;", 3);
        joined("one finger less", "n1013;n4012;", 2);
        joined("one layer less", "n1003;n1013;n4013;", 3);
        joined("one layer of oath 0 less, alike ones", "n1003;n1003;n4003;", 3);
        SaidInWinter most = Edges.piled(8, 1, 6, 9, 9);
        most.drift();
        for (int i = 0; i < 8; i++) {
            Edges.freeze(most, 1, 6, 9, 9);
        }
        due.is("21: the most", most.joined(1, 2), 152);
    }
}
