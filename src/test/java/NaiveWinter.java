import java.util.ArrayList;
import java.util.List;
import java.util.regex.Matcher;
import java.util.regex.Pattern;

/**
 * The document once more, in the slowest and plainest way: fingers are a list, days go by one behind the other,
 * what is done in mind is done to a copy. ModelTest holds the class against it.
 */
final class NaiveWinter {
    static final Pattern LAKE = Pattern.compile("(?:n[0-9]{4};|t[0-9];|c[0-9]{3};|d;|w;)+");

    record Ice(int kind, int oath, int winter, int fingers) {
        Ice less(int n) {
            return new Ice(kind, oath, winter, fingers - n);
        }
    }

    /** On a shelf: nothing is null; sort -1 is a layer. */
    record Held(int kind, int oath, int sort, int[] row) {
    }

    List<List<Ice>> cells = new ArrayList<>();
    int winter = 0;
    NaiveWinter image = null;
    Held[] shelves = new Held[8];

    NaiveWinter() {
        for (int c = 0; c < 6; c++) {
            cells.add(new ArrayList<>());
        }
    }

    NaiveWinter lakeAlone() {
        NaiveWinter x = new NaiveWinter();
        for (int c = 0; c < 6; c++) {
            x.cells.get(c).addAll(cells.get(c));
        }
        x.winter = winter;
        return x;
    }

    void become(NaiveWinter x) {
        NaiveWinter copy = x.lakeAlone();
        cells = copy.cells;
        winter = copy.winter;
    }

    static int thick(int kind, int oath, int f) {
        return new int[] {f, f + 1, f < 4 ? 1 : f / 2, f + f, f + 1, f + f - 1, f + 1 + oath, f + f}[kind];
    }

    static int melts(int kind, int oath) {
        return new int[] {2, 1, 4, 3, 2, 6, 1, 3 + oath}[kind];
    }

    static int light(int kind, int oath) {
        return new int[] {9, 14, 9, 3, 14 - oath, 3, 28, 0}[kind];
    }

    static int price(int kind, int oath) {
        return new int[] {3, 3 + oath, 3 + 3 * oath, 2, 6 + 2 * oath, 6, 10 + oath, 2 - oath}[kind];
    }

    static boolean in(int n, int least, int most) {
        return least <= n && n <= most;
    }

    static Ice top(List<Ice> cell) {
        return cell.get(cell.size() - 1);
    }

    static int sum(List<Ice> cell) {
        int all = 0;
        for (Ice ice : cell) {
            all += ice.fingers;
        }
        return all;
    }

    static int depth(List<Ice> cell, int i) {
        return sum(cell.subList(i + 1, cell.size()));
    }

    static boolean read(List<Ice> cell, int i) {
        return depth(cell, i) <= light(cell.get(i).kind, cell.get(i).oath);
    }

    static List<Integer> fingers(List<Ice> cell, boolean oaths) {
        List<Integer> from = new ArrayList<>();
        for (int i = cell.size() - 1; i >= 0; i--) {
            for (int f = 0; f < cell.get(i).fingers; f++) {
                from.add(oaths ? cell.get(i).oath : cell.get(i).winter);
            }
        }
        return from;
    }

    int doFreeze(int c, int kind, int oath, int frost) {
        if (!in(c, 0, 5) || !in(kind, 0, 7) || !in(oath, 0, 9) || !in(frost, 1, 9)) {
            return -1;
        }
        if (cells.get(c).size() == 8) {
            return -2;
        }
        cells.get(c).add(new Ice(kind, oath, winter, thick(kind, oath, frost)));
        return top(cells.get(c)).fingers;
    }

    int thaw(int n) {
        if (!in(n, 1, 99)) {
            return -1;
        }
        int before = layers();
        for (int day = 0; day < n; day++) {
            for (List<Ice> cell : cells) {
                if (!cell.isEmpty()) {
                    Ice ice = cell.remove(cell.size() - 1);
                    Ice left = ice.less(melts(ice.kind, ice.oath));
                    if (left.fingers > 0) {
                        cell.add(left);
                    }
                }
            }
        }
        return before - layers();
    }

    int cut(int c, int n) {
        if (!in(c, 0, 5) || !in(n, 1, 99)) {
            return -1;
        }
        int before = layers();
        List<Ice> cell = cells.get(c);
        for (int i = 0; i < n && !cell.isEmpty(); i++) {
            Ice left = cell.remove(cell.size() - 1).less(1);
            if (left.fingers > 0) {
                cell.add(left);
            }
        }
        return before - layers();
    }

    int drift() {
        cells.add(0, cells.remove(5));
        return cells.get(0).size();
    }

    int winter() {
        return winter == 99 ? -2 : ++winter;
    }

    int layers() {
        int all = 0;
        for (List<Ice> cell : cells) {
            all += cell.size();
        }
        return all;
    }

    int ice() {
        int all = 0;
        for (List<Ice> cell : cells) {
            all += sum(cell);
        }
        return all;
    }

    /** -1, -11, -12 or 0. */
    int wants(int d, boolean layer) {
        if (!in(d, 0, 7)) {
            return -1;
        }
        return shelves[d] == null ? -11 : (shelves[d].sort == -1) == layer ? 0 : -12;
    }

    int lake(int d) {
        int refusal = wants(d, false);
        if (refusal != 0 || shelves[d].sort != 0) {
            return refusal != 0 ? refusal : -12;
        }
        StringBuilder text = new StringBuilder();
        for (int b : shelves[d].row) {
            text.append((char) (b & 255));
        }
        for (int size = 1; size <= text.length(); size++) {
            Matcher begun = LAKE.matcher(text.substring(0, size));
            if (!begun.matches() && !begun.hitEnd()) {
                return -1000 - (size - 1);
            }
        }
        if (!LAKE.matcher(text).matches()) {
            return -1000 - text.length();
        }
        NaiveWinter tried = lakeAlone();
        int place = 0;
        int many = 0;
        for (String s : text.toString().split(";")) {
            if (tried.statement(s) < 0) {
                return -2000 - place;
            }
            place += s.length() + 1;
            many++;
        }
        become(tried);
        return many;
    }

    private int statement(String s) {
        int n = s.length() > 1 ? Integer.parseInt(s.substring(1)) : 0;
        return switch (s.charAt(0)) {
            case 'n' -> doFreeze(n / 1000, n / 100 % 10, n / 10 % 10, n % 10);
            case 't' -> thaw(n);
            case 'c' -> cut(n / 100, n % 100);
            case 'd' -> drift();
            default -> winter();
        };
    }

    int freeze(int d, int cell, int frost) {
        if (!in(d, 0, 7) || !in(cell, 0, 5) || !in(frost, 1, 9)) {
            return -1;
        }
        int refusal = wants(d, true);
        return refusal != 0 ? refusal : doFreeze(cell, shelves[d].kind, shelves[d].oath, frost);
    }

    int layer(int c, int i, int what) {
        if (!in(c, 0, 5) || !in(i, 0, cells.get(c).size() - 1) || !in(what, 0, 5)) {
            return -1;
        }
        Ice ice = cells.get(c).get(i);
        return new int[] {ice.kind, ice.oath, ice.winter, ice.fingers, depth(cells.get(c), i),
            read(cells.get(c), i) ? 1 : 0}[what];
    }

    int cell(int c, int what) {
        return !in(c, 0, 5) || !in(what, 0, 1) ? -1 : what == 0 ? cells.get(c).size() : sum(cells.get(c));
    }

    int holds(int c) {
        if (!in(c, 0, 5)) {
            return -1;
        }
        return cells.get(c).isEmpty() ? -4 : top(cells.get(c)).oath;
    }

    int latest(int oath) {
        if (!in(oath, 0, 9)) {
            return -1;
        }
        for (int w = 99; w >= 0; w--) {
            for (int c = 0; c < 6; c++) {
                for (int i = cells.get(c).size() - 1; i >= 0; i--) {
                    if (cells.get(c).get(i).oath == oath && cells.get(c).get(i).winter == w) {
                        return 10 * c + i;
                    }
                }
            }
        }
        return -4;
    }

    int seen(int bits, int n) {
        if (!in(bits, 0, 63) || !in(n, 0, 99)) {
            return -1;
        }
        NaiveWinter x = lakeAlone();
        int oaths = 0;
        for (int c = 0; c < 6; c++) {
            if ((bits & 1 << c) != 0) {
                x.cut(c, n);
                for (int i = 0; i < x.cells.get(c).size(); i++) {
                    oaths |= read(x.cells.get(c), i) ? 1 << x.cells.get(c).get(i).oath : 0;
                }
            }
        }
        return oaths;
    }

    int holes(int oaths, int n) {
        if (!in(oaths, 0, 1023) || !in(n, 0, 99)) {
            return -1;
        }
        for (int fewest = 0; fewest <= 6; fewest++) {
            for (int bits = 0; bits < 64; bits++) {
                if (Integer.bitCount(bits) == fewest && (seen(bits, n) & oaths) == oaths) {
                    return bits;
                }
            }
        }
        return -4;
    }

    int lasts(int c, int i) {
        if (!in(c, 0, 5) || !in(i, 0, cells.get(c).size() - 1)) {
            return -1;
        }
        NaiveWinter x = lakeAlone();
        int days = 0;
        while (x.cells.get(c).size() > i) {
            x.thaw(1);
            days++;
        }
        return days;
    }

    int frost(int kind, int oath, int days) {
        if (!in(kind, 0, 7) || !in(oath, 0, 9) || !in(days, 1, 99)) {
            return -1;
        }
        for (int f = 1; f <= 9; f++) {
            NaiveWinter x = new NaiveWinter();
            x.doFreeze(0, kind, oath, f);
            x.thaw(days);
            if (x.layers() == 1) {
                return f;
            }
        }
        return -4;
    }

    int where(int oath, int days) {
        if (!in(oath, 0, 9) || !in(days, 0, 99)) {
            return -1;
        }
        NaiveWinter x = lakeAlone();
        if (days > 0) {
            x.thaw(days);
        }
        int bits = 0;
        for (int c = 0; c < 6; c++) {
            for (Ice ice : x.cells.get(c)) {
                bits |= ice.oath == oath ? 1 << c : 0;
            }
        }
        return bits;
    }

    int thin(int what) {
        if (!in(what, 0, 1)) {
            return -1;
        }
        List<Integer> thin = new ArrayList<>();
        for (int c = 0; c < 6; c++) {
            for (int i = 0; i < cells.get(c).size(); i++) {
                Ice ice = cells.get(c).get(i);
                int thicker = 0;
                for (int side : new int[] {(c + 1) % 6, (c + 5) % 6}) {
                    for (Ice other : cells.get(side)) {
                        if (other.winter == ice.winter) {
                            thicker += other.fingers - ice.fingers >= 2 ? 1 : 0;
                            break;
                        }
                    }
                }
                if (thicker == 2) {
                    thin.add(10 * c + i);
                }
            }
        }
        return what == 0 ? thin.size() : thin.isEmpty() ? -4 : thin.get(0);
    }

    int spans(int c, int depth) {
        if (!in(c, 0, 5) || !in(depth, 0, 98)) {
            return -1;
        }
        List<Integer> winters = fingers(cells.get(c), false);
        return depth < winters.size() ? winters.get(depth) : -4;
    }

    int disorder() {
        int pairs = 0;
        for (List<Ice> cell : cells) {
            for (int i = 0; i + 1 < cell.size(); i++) {
                pairs += cell.get(i + 1).winter < cell.get(i).winter ? 1 : 0;
            }
        }
        return pairs;
    }

    int order(int what) {
        if (!in(what, 0, 1)) {
            return -1;
        }
        List<Integer> left = new ArrayList<>();
        for (int oath = 0; oath < 10; oath++) {
            if (latest(oath) >= 0) {
                left.add(oath);
            }
        }
        int first = -4;
        int last = -4;
        while (!left.isEmpty()) {
            Integer next = null;
            for (Integer oath : left) {
                if (next == null && isFree(oath, left)) {
                    next = oath;
                }
            }
            if (next == null) {
                return -4;
            }
            left.remove(next);
            first = first == -4 ? next : first;
            last = next;
        }
        return what == 0 ? first : last;
    }

    private boolean isFree(int oath, List<Integer> left) {
        for (List<Ice> cell : cells) {
            for (int low = 0; low < cell.size(); low++) {
                for (int high = low + 1; high < cell.size(); high++) {
                    int below = cell.get(low).oath;
                    if (cell.get(high).oath == oath && below != oath && left.contains(below)) {
                        return false;
                    }
                }
            }
        }
        return true;
    }

    int joined(int one, int other) {
        if (!in(one, 0, 5) || !in(other, 0, 5) || one == other) {
            return -1;
        }
        List<Integer> a = fingers(cells.get(one), true);
        List<Integer> b = fingers(cells.get(other), true);
        int alike = 0;
        while (alike < a.size() && alike < b.size() && a.get(alike).equals(b.get(alike))) {
            alike++;
        }
        return alike;
    }

    int seeded(int n, int seed) {
        if (!in(n, 1, 40)) {
            return -1;
        }
        NaiveWinter x = lakeAlone();
        long[] z = {seed};
        for (int i = 0; i < n; i++) {
            int what = draw(z, 4);
            if (what <= 1) {
                int c = draw(z, 6);
                int kind = draw(z, 8);
                int oath = draw(z, 10);
                int frost = draw(z, 9) + 1;
                x.doFreeze(c, kind, oath, frost);
            } else if (what == 2) {
                x.thaw(1);
            } else {
                x.winter();
            }
        }
        return x.ice();
    }

    private static int draw(long[] z, int n) {
        z[0] = Math.floorMod(z[0] * 1103515245L + 12345L, 1L << 32);
        return (int) (z[0] % (1L << 31) / 65536 % n);
    }

    int judge(int d) {
        int refusal = wants(d, false);
        if (refusal != 0) {
            return refusal;
        }
        int[] row = shelves[d].row;
        int skipped = new int[] {Byte.MIN_VALUE, Short.MIN_VALUE, Integer.MIN_VALUE}[shelves[d].sort];
        for (int c = 0; c < 6; c++) {
            if (c == row.length) {
                return c;
            }
            if (row[c] != skipped && row[c] != sum(cells.get(c))) {
                return c;
            }
        }
        return row.length == 6 ? -4 : 6;
    }

    int image() {
        image = lakeAlone();
        return ice();
    }

    int restore() {
        if (image == null) {
            return -3;
        }
        become(image);
        return ice();
    }

    int count(int what) {
        int readable = 0;
        int oaths = 0;
        for (List<Ice> cell : cells) {
            for (int i = 0; i < cell.size(); i++) {
                readable += read(cell, i) ? 1 : 0;
                oaths |= 1 << cell.get(i).oath;
            }
        }
        return !in(what, 0, 4) ? -1 : new int[] {winter, layers(), ice(), readable, oaths}[what];
    }

    int keep(int d, int what, int k, int oath) {
        if (!in(d, 0, 7) || !in(what, 0, 1) || what == 1 && !(in(k, 0, 7) && in(oath, 0, 9))) {
            return -1;
        }
        shelves[d] = what == 0 ? null : new Held(k, oath, -1, null);
        return 0;
    }

    int row(int d, int sort, int n) {
        if (!in(d, 0, 7) || !in(sort, 0, 2) || n > 100) {
            return -1;
        }
        if (n < 0) {
            return -14;
        }
        shelves[d] = new Held(0, 0, sort, new int[n]);
        return 0;
    }

    int put(int d, int i, int v) {
        int refusal = wants(d, false);
        if (refusal != 0) {
            return refusal;
        }
        if (!in(i, 0, shelves[d].row.length - 1)) {
            return -13;
        }
        int lost = new int[] {24, 16, 0}[shelves[d].sort];
        shelves[d].row[i] = v << lost >> lost;
        return 0;
    }

    /** What it throws is told by a number that no element has. */
    long element(int d, int i) {
        int refusal = wants(d, false);
        if (refusal == -1) {
            return ModelTest.ILLEGAL_ARGUMENT;
        }
        return refusal != 0 || !in(i, 0, shelves[d].row.length - 1) ? ModelTest.ILLEGAL_STATE : shelves[d].row[i];
    }

    int copy(int d, int i, int e, int j, int n) {
        int from = wants(d, false);
        int to = wants(e, false);
        for (int refusal : new int[] {-1, -11, -12}) {
            if (from == refusal || to == refusal) {
                return refusal;
            }
        }
        if (shelves[d].sort != shelves[e].sort) {
            return -12;
        }
        if (i < 0 || j < 0 || n < 0 || (long) i + n > shelves[d].row.length || (long) j + n > shelves[e].row.length) {
            return -13;
        }
        int[] taken = shelves[d].row.clone();
        for (int k = 0; k < n; k++) {
            shelves[e].row[j + k] = taken[i + k];
        }
        return n;
    }

    int toll(int d) {
        int refusal = wants(d, true);
        return refusal != 0 ? refusal : price(shelves[d].kind, shelves[d].oath);
    }

    int toss(int d) {
        int refusal = wants(d, true);
        if (refusal != 0) {
            return refusal;
        }
        int kind = shelves[d].kind;
        int oath = shelves[d].oath;
        return kind == 2 || oath == 0 ? -15 : kind == 4 ? 100 + oath : kind == 5 ? 206 : oath;
    }
}
