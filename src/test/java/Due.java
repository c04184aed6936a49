import java.nio.charset.StandardCharsets;

/** What the tests share: answers that are due, and texts put on shelves. */
final class Due {
    private int wrong = 0;
    private int asked = 0;

    void is(String call, long got, long want) {
        asked++;
        if (got != want) {
            wrong++;
            System.out.println(call + " answered " + got + ", due is " + want);
        }
    }

    void holds(String what, boolean good) {
        is(what, good ? 1 : 0, 1);
    }

    int wrong() {
        return wrong;
    }

    /** Ends the test's program, with 1 if an answer was wrong. */
    void end() {
        System.out.println(asked + " answers, " + wrong + " wrong");
        System.exit(wrong == 0 ? 0 : 1);
    }

    static void text(SaidInWinter x, int d, String text) {
        byte[] bytes = text.getBytes(StandardCharsets.ISO_8859_1);
        x.row(d, 0, bytes.length);
        for (int i = 0; i < bytes.length; i++) {
            x.put(d, i, bytes[i]);
        }
    }

    static int read(SaidInWinter x, String text) {
        text(x, 0, text);
        return x.lake(0);
    }

    static SaidInWinter lakeOf(String... texts) {
        SaidInWinter x = new SaidInWinter();
        for (String text : texts) {
            int answer = read(x, text);
            if (answer < 1) {
                throw new IllegalStateException("the test's own text " + text + " has a fault: " + answer);
            }
        }
        x.keep(0, 0, 0, 0);
        return x;
    }

    static void ints(SaidInWinter x, int d, int sort, int... values) {
        x.row(d, sort, values.length);
        for (int i = 0; i < values.length; i++) {
            x.put(d, i, values[i]);
        }
    }

    /** All that can be told of a lake, as one text: two lakes that tell the same are the same. */
    static String told(SaidInWinter x) {
        StringBuilder all = new StringBuilder();
        all.append(x.count(0)).append('|');
        for (int c = 0; c < 6; c++) {
            for (int i = 0; i < x.cell(c, 0); i++) {
                for (int what = 0; what < 4; what++) {
                    all.append(x.layer(c, i, what)).append(',');
                }
                all.append(';');
            }
            all.append('|');
        }
        return all.toString();
    }
}
