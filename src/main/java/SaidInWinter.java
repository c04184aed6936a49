import java.util.Arrays;

/**
 * Said in winter: a lake of cells with ice in layers, each with an oath that was written on it.
 * Words in capitals are those of the document's terms.
 */
public final class SaidInWinter {
    private static final int NO_SUCH = -1;
    private static final int NO_ROOM = -2;
    private static final int NOT_NOW = -3;
    private static final int NONE = -4;
    private static final int EMPTY = -11;
    private static final int OTHER_KIND = -12;
    private static final int NO_PLACE = -13;
    private static final int BELOW_ZERO = -14;
    private static final int NO_FAILURE = -15;
    private static final int NOT_REFUSED = 0;

    private static final int CELLS = 6;
    private static final int ROOM = 8;
    private static final int KINDS = 8;
    private static final int OATHS = 10;
    private static final int MOST_FROST = 9;
    private static final int LAST_WINTER = 99;
    private static final int MOST_FINGERS = 99;
    private static final int MOST_DAYS = 99;
    private static final int DEEPEST = 98;
    private static final int MOST_SEEDED = 40;

    private static final int SHELVES = 8;
    private static final int MOST_ELEMENTS = 100;
    private static final int NOTHING = 0;
    private static final int A_LAYER = 1;
    private static final int A_ROW = 2;
    private static final int BYTES = 0;
    private static final int SHORTS = 1;
    private static final int INTS = 2;
    private static final int LEAST_BYTE = -128;
    private static final int LEAST_SHORT = -32768;
    private static final int LEAST_INT = -2147483648;
    private static final int WITHOUT_SIGN = 2147483647;

    private static final int SYNTAX_FAULT = -1000;
    private static final int STATEMENT_FAULT = -2000;

    private final Layer[] kinds;
    private final Lake now;
    private final Lake imaged;
    /** What is tried before it comes to stand, or only thought of. */
    private final Lake mind;
    private final Shelf[] shelves;
    /** Of each CELL the OATHS seen; of each OATH those ahead of it: kept here so that no call makes a row. */
    private final int[] seenIn;
    private final int[] ahead;
    private boolean isImaged;
    private int seed;

    public SaidInWinter() {
        kinds = new Layer[] {
            new Layer(), new Clear(), new Forged(), new Snow(),
            new Bubbly(), new Salt(), new Black(), new Cracked()
        };
        now = new Lake(kinds);
        imaged = new Lake(kinds);
        mind = new Lake(kinds);
        shelves = new Shelf[SHELVES];
        for (int d = 0; d < SHELVES; d++) {
            shelves[d] = new Shelf();
        }
        seenIn = new int[CELLS];
        ahead = new int[OATHS];
    }

    // ---- lakes

    public int lake(int d) {
        Shelf shelf = shelfAt(d);
        if (shelf == null) {
            return NO_SUCH;
        }
        int refusal = shelf.lacks(A_ROW);
        if (refusal != NOT_REFUSED) {
            return refusal;
        }
        if (shelf.sort != BYTES) {
            return OTHER_KIND;
        }
        int bad = firstBadByte(shelf);
        return bad < 0 ? readStatements(shelf) : SYNTAX_FAULT - bad;
    }

    public int freeze(int d, int cell, int frost) {
        Shelf shelf = shelfAt(d);
        if (shelf == null || now.cellAt(cell) == null || !within(frost, 1, MOST_FROST)) {
            return NO_SUCH;
        }
        int refusal = shelf.lacks(A_LAYER);
        return refusal == NOT_REFUSED ? now.freezeIn(cell, shelf.kind, shelf.oath, frost) : refusal;
    }

    public int thaw(int n) {
        return now.thawFor(n);
    }

    public int cut(int cell, int fingers) {
        return now.cutIn(cell, fingers);
    }

    public int drift() {
        return now.driftOn();
    }

    public int winter() {
        return now.nextWinter();
    }

    public int layer(int cell, int layer, int what) {
        Cell found = now.cellAt(cell);
        return found == null || !found.has(layer) ? NO_SUCH : found.tellOf(layer, what);
    }

    public int cell(int cell, int what) {
        Cell found = now.cellAt(cell);
        if (found == null || !within(what, 0, 1)) {
            return NO_SUCH;
        }
        return what == 0 ? found.layers : found.ice();
    }

    // ---- to read

    public int holds(int cell) {
        Cell found = now.cellAt(cell);
        return found == null ? NO_SUCH : found.topmostRead();
    }

    public int latest(int oath) {
        return within(oath, 0, OATHS - 1) ? now.latestOf(oath) : NO_SUCH;
    }

    public int seen(int cells, int fingers) {
        if (!within(cells, 0, (1 << CELLS) - 1) || !within(fingers, 0, MOST_FINGERS)) {
            return NO_SUCH;
        }
        now.tellSeen(fingers, seenIn);
        return seenInAll(cells);
    }

    public int holes(int oaths, int fingers) {
        if (!within(oaths, 0, (1 << OATHS) - 1) || !within(fingers, 0, MOST_FINGERS)) {
            return NO_SUCH;
        }
        now.tellSeen(fingers, seenIn);
        int best = NONE;
        int fewest = CELLS + 1;
        for (int cells = 0; cells < 1 << CELLS; cells++) {
            if (Integer.bitCount(cells) < fewest && (oaths & ~seenInAll(cells)) == 0) {
                best = cells;
                fewest = Integer.bitCount(cells);
            }
        }
        return best;
    }

    // ---- to last

    public int lasts(int cell, int layer) {
        Cell found = now.cellAt(cell);
        return found == null || !found.has(layer) ? NO_SUCH : found.daysOf(layer);
    }

    public int frost(int kind, int oath, int days) {
        if (!isKindAndOath(kind, oath) || !within(days, 1, MOST_DAYS)) {
            return NO_SUCH;
        }
        Layer told = kindOf(kinds, kind);
        for (int frost = 1; frost <= MOST_FROST; frost++) {
            if (told.fingersIn(frost, oath) > days * told.melts(oath)) {
                return frost;
            }
        }
        return NONE;
    }

    public int where(int oath, int days) {
        if (!within(oath, 0, OATHS - 1) || !within(days, 0, MOST_DAYS)) {
            return NO_SUCH;
        }
        return now.cellsWith(oath, days);
    }

    // ---- what is wrong, winters, orders

    public int thin(int what) {
        if (!within(what, 0, 1)) {
            return NO_SUCH;
        }
        return what == 0 ? now.thinLayers() : now.firstThin();
    }

    public int spans(int cell, int depth) {
        Cell found = now.cellAt(cell);
        if (found == null || !within(depth, 0, DEEPEST)) {
            return NO_SUCH;
        }
        int layer = found.layerBehind(depth);
        return layer < 0 ? NONE : found.winterAt(layer);
    }

    public int disorder() {
        return now.allUnordered();
    }

    public int order(int what) {
        if (!within(what, 0, 1)) {
            return NO_SUCH;
        }
        now.tellAllAhead(ahead);
        int all = now.allOaths();
        int placed = 0;
        int first = NONE;
        int last = NONE;
        for (int left = Integer.bitCount(all); left > 0; left--) {
            last = leastNext(all, placed);
            if (last < 0) {
                return NONE;
            }
            first = placed == 0 ? last : first;
            placed |= 1 << last;
        }
        return what == 0 ? first : last;
    }

    public int joined(int one, int other) {
        Cell a = now.cellAt(one);
        Cell b = now.cellAt(other);
        return a == null || b == null || one == other ? NO_SUCH : alikeFingers(a, b);
    }

    // ---- seeds, told depths

    public int seeded(int n, int z) {
        if (!within(n, 1, MOST_SEEDED)) {
            return NO_SUCH;
        }
        mind.takeAll(now);
        seed = z;
        for (int i = 0; i < n; i++) {
            happen(drawBelow(4));
        }
        return mind.allIce();
    }

    public int judge(int d) {
        Shelf shelf = shelfAt(d);
        if (shelf == null) {
            return NO_SUCH;
        }
        int refusal = shelf.lacks(A_ROW);
        return refusal == NOT_REFUSED ? firstWrong(shelf) : refusal;
    }

    // ---- the image, what is told

    public int image() {
        imaged.takeAll(now);
        isImaged = true;
        return now.allIce();
    }

    public int restore() {
        if (!isImaged) {
            return NOT_NOW;
        }
        now.takeAll(imaged);
        return now.allIce();
    }

    public int count(int what) {
        switch (what) {
            case 0:
                return now.winter;
            case 1:
                return now.allLayers();
            case 2:
                return now.allIce();
            case 3:
                return now.allReadable();
            case 4:
                return now.allOaths();
            default:
                return NO_SUCH;
        }
    }

    // ---- shelves

    public int keep(int d, int what, int k, int oath) {
        Shelf shelf = shelfAt(d);
        if (shelf == null || !within(what, 0, 1) || what == 1 && !isKindAndOath(k, oath)) {
            return NO_SUCH;
        }
        if (what == 0) {
            shelf.held = NOTHING;
        } else {
            shelf.takeLayer(k, oath);
        }
        return 0;
    }

    public int row(int d, int sort, int n) {
        Shelf shelf = shelfAt(d);
        if (shelf == null || !within(sort, BYTES, INTS) || n > MOST_ELEMENTS) {
            return NO_SUCH;
        }
        if (n < 0) {
            return BELOW_ZERO;
        }
        shelf.takeRow(sort, n);
        return 0;
    }

    public int put(int d, int i, int v) {
        Shelf shelf = shelfAt(d);
        if (shelf == null) {
            return NO_SUCH;
        }
        int refusal = shelf.lacks(A_ROW);
        if (refusal != NOT_REFUSED) {
            return refusal;
        }
        if (!shelf.hasPlace(i)) {
            return NO_PLACE;
        }
        shelf.elements[i] = shelf.lowestBits(v);
        return 0;
    }

    public long element(int d, int i) throws IllegalArgumentException, IllegalStateException {
        Shelf shelf = shelfAt(d);
        if (shelf == null) {
            throw new IllegalArgumentException("no such shelf");
        }
        if (shelf.lacks(A_ROW) != NOT_REFUSED) {
            throw new IllegalStateException("no row on this shelf");
        }
        if (!shelf.hasPlace(i)) {
            throw new IllegalStateException("no such place in the row");
        }
        return shelf.elements[i];
    }

    public int copy(int d, int i, int e, int j, int n) {
        Shelf from = shelfAt(d);
        Shelf to = shelfAt(e);
        if (from == null || to == null) {
            return NO_SUCH;
        }
        if (from.held == NOTHING || to.held == NOTHING) {
            return EMPTY;
        }
        if (from.held != A_ROW || to.held != A_ROW || from.sort != to.sort) {
            return OTHER_KIND;
        }
        if (!from.hasStretch(i, n) || !to.hasStretch(j, n)) {
            return NO_PLACE;
        }
        System.arraycopy(from.elements, i, to.elements, j, n);
        return n;
    }

    public int toll(int d) {
        Shelf shelf = shelfAt(d);
        if (shelf == null) {
            return NO_SUCH;
        }
        int refusal = shelf.lacks(A_LAYER);
        return refusal == NOT_REFUSED ? kindOf(kinds, shelf.kind).tollWith(shelf.oath) : refusal;
    }

    public int toss(int d) {
        Shelf shelf = shelfAt(d);
        if (shelf == null) {
            return NO_SUCH;
        }
        int refusal = shelf.lacks(A_LAYER);
        return refusal == NOT_REFUSED ? caughtFailure(kindOf(kinds, shelf.kind), shelf.oath) : refusal;
    }

    private static boolean within(int n, int least, int most) {
        return n >= least && n <= most;
    }

    private static boolean isKindAndOath(int kind, int oath) {
        return within(kind, 0, KINDS - 1) && within(oath, 0, OATHS - 1);
    }

    /** A number out of range can't come here; should it, the plain kind stands in for it. */
    private static Layer kindOf(Layer[] kinds, int kind) {
        return within(kind, 0, kinds.length - 1) ? kinds[kind] : kinds[0];
    }

    /** The SHELF, or null where there is none. */
    private Shelf shelfAt(int d) {
        return within(d, 0, SHELVES - 1) ? shelves[d] : null;
    }

    /**
     * The place of the first byte with which no LAKE can go on, or -1.
     * Behind the end no byte fits, so that a text that ends too early tells its size.
     */
    private static int firstBadByte(Shelf text) {
        int at = 0;
        do {
            int length = statementLength(text.valueAt(at));
            if (length == 0) {
                return at;
            }
            for (int i = at + 1; i < at + length; i++) {
                boolean isLast = i == at + length - 1;
                if (isLast ? text.valueAt(i) != ';' : text.digitAt(i) < 0) {
                    return i;
                }
            }
            at += length;
        } while (at < text.size);
        return -1;
    }

    /** How many bytes a STATEMENT has, its ; too; 0 for what is no letter of one. */
    private static int statementLength(int letter) {
        switch (letter) {
            case 'n':
                return 6;
            case 't':
                return 3;
            case 'c':
                return 5;
            case 'd':
            case 'w':
                return 2;
            default:
                return 0;
        }
    }

    /** In mind first: with a FAULT nothing of the text comes. */
    private int readStatements(Shelf text) {
        mind.takeAll(now);
        int statements = 0;
        int length = 1;
        for (int at = 0; at < text.size; at += length) {
            if (doStatement(text, at) < 0) {
                return STATEMENT_FAULT - at;
            }
            length = Math.max(1, statementLength(text.valueAt(at)));
            statements++;
        }
        now.takeAll(mind);
        return statements;
    }

    /** Below 0 where it can't be done. */
    private int doStatement(Shelf text, int at) {
        int first = text.digitAt(at + 1);
        switch (text.valueAt(at)) {
            case 'n':
                return mind.freezeIn(first, text.digitAt(at + 2), text.digitAt(at + 3), text.digitAt(at + 4));
            case 't':
                return mind.thawFor(first);
            case 'c':
                return mind.cutIn(first, 10 * text.digitAt(at + 2) + text.digitAt(at + 3));
            case 'd':
                return mind.driftOn();
            default:
                return mind.nextWinter();
        }
    }

    private int seenInAll(int cells) {
        int oaths = 0;
        for (int c = 0; c < CELLS; c++) {
            if ((cells >> c & 1) == 1) {
                oaths |= seenIn[c];
            }
        }
        return oaths;
    }

    /** The least OATH not yet placed that waits for none. */
    private int leastNext(int all, int placed) {
        for (int oath = 0; oath < OATHS; oath++) {
            boolean isLeft = ((all & ~placed) >> oath & 1) == 1;
            if (isLeft && (ahead[oath] & ~placed) == 0) {
                return oath;
            }
        }
        return NONE;
    }

    /** Stretch by stretch: in each round the shorter rest of two layers is used up, so one of them is left behind. */
    private static int alikeFingers(Cell a, Cell b) {
        int alike = 0;
        int i = a.layers - 1;
        int j = b.layers - 1;
        int restOfA = a.thickAt(i);
        int restOfB = b.thickAt(j);
        while (i >= 0 && j >= 0 && a.oathAt(i) == b.oathAt(j)) {
            int stretch = Math.min(restOfA, restOfB);
            alike += stretch;
            restOfA -= stretch;
            restOfB -= stretch;
            if (restOfA == 0) {
                i--;
                restOfA = a.thickAt(i);
            }
            if (restOfB == 0) {
                j--;
                restOfB = b.thickAt(j);
            }
        }
        return alike;
    }

    private void happen(int what) {
        if (what == 2) {
            mind.thawFor(1);
        } else if (what == 3) {
            mind.nextWinter();
        } else {
            freezeDrawn();
        }
    }

    /** All is drawn even where there is no room then. */
    private void freezeDrawn() {
        int cell = drawBelow(CELLS);
        int kind = drawBelow(KINDS);
        int oath = drawBelow(OATHS);
        int frost = drawBelow(MOST_FROST) + 1;
        mind.freezeIn(cell, kind, oath, frost);
    }

    private int drawBelow(int n) {
        seed = seed * 1103515245 + 12345;
        return n < 1 ? 0 : (seed & WITHOUT_SIGN) / 65536 % n;
    }

    private int firstWrong(Shelf told) {
        for (int c = 0; c < CELLS && c < told.size; c++) {
            int value = told.valueAt(c);
            Cell cell = now.cellAt(c);
            if (value != told.leastNumber() && cell != null && value != cell.ice()) {
                return c;
            }
        }
        return told.size == CELLS ? NONE : Math.min(told.size, CELLS);
    }

    private static int caughtFailure(Layer kind, int oath) {
        if (oath == 0) {
            return NO_FAILURE;
        }
        try {
            kind.fail();
        } catch (IllegalStateException e) {
            return oath;
        } catch (IllegalArgumentException e) {
            return 100 + oath;
        } catch (UnsupportedOperationException e) {
            return 200 + kind.tollWith(oath);
        }
        return NO_FAILURE;
    }

    /** The plain KIND; those under it tell only what they do in another way. */
    private static class Layer {
        int fingersIn(int frost, int oath) {
            return frost;
        }

        int melts(int oath) {
            return 2;
        }

        int light(int oath) {
            return 9;
        }

        int tollWith(int oath) {
            return 3;
        }

        /** Which exception it is tells the sort of FAILURE, since nothing is read from a caught one. */
        void fail() {
            throw new IllegalStateException("an oath is broken");
        }
    }

    private static class Clear extends Layer {
        int fingersIn(int frost, int oath) {
            return super.fingersIn(frost, oath) + 1;
        }

        int melts(int oath) {
            return super.melts(oath) - 1;
        }

        int light(int oath) {
            return super.light(oath) + 5;
        }

        int tollWith(int oath) {
            return super.tollWith(oath) + oath;
        }
    }

    private static final class Forged extends Layer {
        int fingersIn(int frost, int oath) {
            return Math.max(1, super.fingersIn(frost, oath) / 2);
        }

        int melts(int oath) {
            return 2 * super.melts(oath);
        }

        int tollWith(int oath) {
            return super.tollWith(oath) * (oath + 1);
        }

        void fail() {
            // a forged oath binds nobody: it has no FAILURE
        }
    }

    private static class Snow extends Layer {
        int fingersIn(int frost, int oath) {
            return 2 * super.fingersIn(frost, oath);
        }

        int melts(int oath) {
            return super.melts(oath) + 1;
        }

        int light(int oath) {
            return super.light(oath) / 3;
        }

        int tollWith(int oath) {
            return super.tollWith(oath) - 1;
        }
    }

    private static final class Bubbly extends Clear {
        int melts(int oath) {
            return super.melts(oath) + 1;
        }

        int light(int oath) {
            return super.light(oath) - oath;
        }

        int tollWith(int oath) {
            return 2 * super.tollWith(oath);
        }

        void fail() {
            throw new IllegalArgumentException("an oath is broken in bubbles");
        }
    }

    private static final class Salt extends Snow {
        int fingersIn(int frost, int oath) {
            return super.fingersIn(frost, oath) - 1;
        }

        int melts(int oath) {
            return 2 * super.melts(oath);
        }

        int tollWith(int oath) {
            return super.tollWith(oath) + 4;
        }

        void fail() {
            throw new UnsupportedOperationException("an oath is broken in salt");
        }
    }

    private static final class Black extends Clear {
        int fingersIn(int frost, int oath) {
            return super.fingersIn(frost, oath) + oath;
        }

        int light(int oath) {
            return 2 * super.light(oath);
        }

        int tollWith(int oath) {
            return super.tollWith(oath) + 7;
        }
    }

    private static final class Cracked extends Snow {
        int melts(int oath) {
            return super.melts(oath) + oath;
        }

        int light(int oath) {
            return 0;
        }

        int tollWith(int oath) {
            return super.tollWith(oath) - oath;
        }
    }

    /** One CELL: its LAYERS from the lowest on. What is asked of a layer that isn't there is 0. */
    private static final class Cell {
        private final int[] kind = new int[ROOM];
        private final int[] oath = new int[ROOM];
        private final int[] frozenIn = new int[ROOM];
        private final int[] thick = new int[ROOM];
        /** What KIND and OATH tell of a layer, asked once when it freezes: days of thaw would ask again and again. */
        private final int[] melts = new int[ROOM];
        private final int[] light = new int[ROOM];
        private int layers;

        boolean has(int i) {
            return i >= 0 && i < layers && i < ROOM;
        }

        int oathAt(int i) {
            return has(i) ? oath[i] : 0;
        }

        int winterAt(int i) {
            return has(i) ? frozenIn[i] : 0;
        }

        int thickAt(int i) {
            return has(i) ? thick[i] : 0;
        }

        int meltsAt(int i) {
            return has(i) ? melts[i] : 0;
        }

        int lightAt(int i) {
            return has(i) ? light[i] : 0;
        }

        int depthAt(int i) {
            int depth = 0;
            for (int above = layers - 1; above > i; above--) {
                depth += thickAt(above);
            }
            return depth;
        }

        int ice() {
            return depthAt(-1);
        }

        boolean canRead(int i) {
            return has(i) && depthAt(i) <= lightAt(i);
        }

        int tellOf(int i, int what) {
            switch (what) {
                case 0:
                    return has(i) ? kind[i] : 0;
                case 1:
                    return oathAt(i);
                case 2:
                    return winterAt(i);
                case 3:
                    return thickAt(i);
                case 4:
                    return depthAt(i);
                case 5:
                    return canRead(i) ? 1 : 0;
                default:
                    return NO_SUCH;
            }
        }

        /** FINGERS of the new layer, or no room. */
        int freezeOn(Layer told, int number, int withOath, int frost, int winter) {
            int top = layers;
            if (top < 0 || top >= ROOM) {
                return NO_ROOM;
            }
            kind[top] = number;
            oath[top] = withOath;
            frozenIn[top] = winter;
            thick[top] = told.fingersIn(frost, withOath);
            melts[top] = told.melts(withOath);
            light[top] = told.light(withOath);
            layers++;
            return thick[top];
        }

        /** How many layers are no more: the one below loses nothing that day. */
        int warmDay() {
            int top = layers - 1;
            return has(top) ? cutOff(Math.min(meltsAt(top), thickAt(top))) : 0;
        }

        /** How many layers are no more. */
        int cutOff(int fingers) {
            int before = layers;
            int left = fingers;
            for (int top = layers - 1; has(top) && left > 0; top--) {
                int taken = Math.min(left, thickAt(top));
                left -= taken;
                thick[top] -= taken;
                if (thick[top] == 0) {
                    layers--;
                }
            }
            return before - layers;
        }

        void takeLayers(Cell other) {
            layers = other.layers;
            for (int i = 0; i < layers && i < ROOM; i++) {
                kind[i] = other.kind[i];
                oath[i] = other.oath[i];
                frozenIn[i] = other.frozenIn[i];
                thick[i] = other.thick[i];
                melts[i] = other.melts[i];
                light[i] = other.light[i];
            }
        }

        int topmostRead() {
            for (int i = layers - 1; i >= 0; i--) {
                if (canRead(i)) {
                    return oathAt(i);
                }
            }
            return NONE;
        }

        /** In mind: a layer that is cut through is not there, one that is reached lies bare. */
        int oathsSeen(int fingers) {
            int oaths = 0;
            int above = -fingers;
            for (int i = layers - 1; i >= 0; i--) {
                boolean isLeft = above + thickAt(i) > 0;
                if (isLeft && Math.max(0, above) <= lightAt(i)) {
                    oaths |= 1 << oathAt(i);
                }
                above += thickAt(i);
            }
            return oaths;
        }

        /** LASTS. Layers melt one behind the other, each in whole days. */
        int daysOf(int i) {
            int days = 0;
            for (int above = layers - 1; above >= i; above--) {
                int aDay = Math.max(1, meltsAt(above));
                days += (thickAt(above) + aDay - 1) / aDay;
            }
            return days;
        }

        boolean keepsOath(int told, int days) {
            for (int i = 0; i < layers; i++) {
                if (oathAt(i) == told && daysOf(i) > days) {
                    return true;
                }
            }
            return false;
        }

        /** The layer that has the FINGER behind so many, or -1. */
        int layerBehind(int depth) {
            int left = depth;
            for (int i = layers - 1; i >= 0; i--) {
                if (left < thickAt(i)) {
                    return i;
                }
                left -= thickAt(i);
            }
            return -1;
        }

        /** FINGERS of the lowest layer of a WINTER; 0 if there is none: no layer has so few. */
        int lowestThickOf(int winter) {
            for (int i = 0; i < layers; i++) {
                if (winterAt(i) == winter) {
                    return thickAt(i);
                }
            }
            return 0;
        }

        int unorderedPairs() {
            int pairs = 0;
            for (int i = 1; i < layers; i++) {
                if (winterAt(i) < winterAt(i - 1)) {
                    pairs++;
                }
            }
            return pairs;
        }

        int readableLayers() {
            int readable = 0;
            for (int i = 0; i < layers; i++) {
                if (canRead(i)) {
                    readable++;
                }
            }
            return readable;
        }

        int oaths() {
            int oaths = 0;
            for (int i = 0; i < layers; i++) {
                oaths |= 1 << oathAt(i);
            }
            return oaths;
        }

        /** To each OATH's bits those of unlike OATHS below it are added. */
        void tellAhead(int[] ahead) {
            int below = 0;
            for (int i = 0; i < layers; i++) {
                int upper = oathAt(i);
                if (within(upper, 0, ahead.length - 1)) {
                    ahead[upper] |= below & ~(1 << upper);
                }
                below |= 1 << upper;
            }
        }
    }

    private static final class Lake {
        private final Layer[] kinds;
        private final Cell[] cells = new Cell[CELLS];
        private int winter;

        Lake(Layer[] kinds) {
            this.kinds = kinds;
            for (int c = 0; c < CELLS; c++) {
                cells[c] = new Cell();
            }
        }

        /** The CELL, or null where there is none. */
        Cell cellAt(int c) {
            return within(c, 0, CELLS - 1) ? cells[c] : null;
        }

        void takeAll(Lake other) {
            winter = other.winter;
            for (int c = 0; c < CELLS; c++) {
                cells[c].takeLayers(other.cells[c]);
            }
        }

        int freezeIn(int c, int kind, int oath, int frost) {
            Cell cell = cellAt(c);
            if (cell == null || !isKindAndOath(kind, oath) || !within(frost, 1, MOST_FROST)) {
                return NO_SUCH;
            }
            return cell.freezeOn(kindOf(kinds, kind), kind, oath, frost, winter);
        }

        int thawFor(int days) {
            if (!within(days, 1, MOST_DAYS)) {
                return NO_SUCH;
            }
            int gone = 0;
            for (Cell cell : cells) {
                for (int day = 0; day < days && cell.layers > 0; day++) {
                    gone += cell.warmDay();
                }
            }
            return gone;
        }

        int cutIn(int c, int fingers) {
            Cell cell = cellAt(c);
            return cell == null || !within(fingers, 1, MOST_FINGERS) ? NO_SUCH : cell.cutOff(fingers);
        }

        int driftOn() {
            Cell last = cells[CELLS - 1];
            for (int c = CELLS - 1; c > 0; c--) {
                cells[c] = cells[c - 1];
            }
            cells[0] = last;
            return last.layers;
        }

        int nextWinter() {
            if (winter >= LAST_WINTER) {
                return NO_ROOM;
            }
            winter++;
            return winter;
        }

        int allLayers() {
            int layers = 0;
            for (Cell cell : cells) {
                layers += cell.layers;
            }
            return layers;
        }

        int allIce() {
            int ice = 0;
            for (Cell cell : cells) {
                ice += cell.ice();
            }
            return ice;
        }

        int allReadable() {
            int readable = 0;
            for (Cell cell : cells) {
                readable += cell.readableLayers();
            }
            return readable;
        }

        int allOaths() {
            int oaths = 0;
            for (Cell cell : cells) {
                oaths |= cell.oaths();
            }
            return oaths;
        }

        int allUnordered() {
            int pairs = 0;
            for (Cell cell : cells) {
                pairs += cell.unorderedPairs();
            }
            return pairs;
        }

        int latestOf(int oath) {
            int latest = NONE;
            int ofWinter = -1;
            for (int c = 0; c < CELLS; c++) {
                Cell cell = cells[c];
                for (int i = cell.layers - 1; i >= 0; i--) {
                    if (cell.oathAt(i) == oath && cell.winterAt(i) > ofWinter) {
                        latest = 10 * c + i;
                        ofWinter = cell.winterAt(i);
                    }
                }
            }
            return latest;
        }

        void tellSeen(int fingers, int[] seenIn) {
            for (int c = 0; c < CELLS && c < seenIn.length; c++) {
                seenIn[c] = cells[c].oathsSeen(fingers);
            }
        }

        int cellsWith(int oath, int days) {
            int bits = 0;
            for (int c = 0; c < CELLS; c++) {
                if (cells[c].keepsOath(oath, days)) {
                    bits |= 1 << c;
                }
            }
            return bits;
        }

        boolean isThin(int c, int i) {
            Cell cell = cells[c];
            Cell before = cells[(c + CELLS - 1) % CELLS];
            Cell behind = cells[(c + 1) % CELLS];
            int ofWinter = cell.winterAt(i);
            int enough = cell.thickAt(i) + 2;
            return before.lowestThickOf(ofWinter) >= enough && behind.lowestThickOf(ofWinter) >= enough;
        }

        int thinLayers() {
            int thin = 0;
            for (int c = 0; c < CELLS; c++) {
                for (int i = 0; i < cells[c].layers; i++) {
                    if (isThin(c, i)) {
                        thin++;
                    }
                }
            }
            return thin;
        }

        int firstThin() {
            for (int c = 0; c < CELLS; c++) {
                for (int i = 0; i < cells[c].layers; i++) {
                    if (isThin(c, i)) {
                        return 10 * c + i;
                    }
                }
            }
            return NONE;
        }

        void tellAllAhead(int[] ahead) {
            Arrays.fill(ahead, 0);
            for (Cell cell : cells) {
                cell.tellAhead(ahead);
            }
        }
    }

    /** One SHELF. Its elements are made once and stand for every ROW that it gets. */
    private static final class Shelf {
        private final int[] elements = new int[MOST_ELEMENTS];
        private int held;
        private int kind;
        private int oath;
        private int sort;
        private int size;

        void takeLayer(int ofKind, int withOath) {
            held = A_LAYER;
            kind = ofKind;
            oath = withOath;
        }

        void takeRow(int ofSort, int n) {
            held = A_ROW;
            sort = ofSort;
            size = n;
            Arrays.fill(elements, 0);
        }

        /** The refusal where something else is wanted than it holds. */
        int lacks(int wanted) {
            if (held == NOTHING) {
                return EMPTY;
            }
            return held == wanted ? NOT_REFUSED : OTHER_KIND;
        }

        boolean hasPlace(int i) {
            return i >= 0 && i < size && i < elements.length;
        }

        boolean hasStretch(int i, int n) {
            return i >= 0 && i <= size && n >= 0 && n <= size - i;
        }

        int valueAt(int i) {
            return hasPlace(i) ? elements[i] : 0;
        }

        /** The digit at a place, or -1 for what is none. */
        int digitAt(int i) {
            int sign = valueAt(i);
            return within(sign, '0', '9') ? sign - '0' : -1;
        }

        int lowestBits(int v) {
            switch (sort) {
                case BYTES:
                    return (byte) v;
                case SHORTS:
                    return (short) v;
                default:
                    return v;
            }
        }

        int leastNumber() {
            switch (sort) {
                case BYTES:
                    return LEAST_BYTE;
                case SHORTS:
                    return LEAST_SHORT;
                default:
                    return LEAST_INT;
            }
        }
    }
}
