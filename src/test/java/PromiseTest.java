/** Each promise of the document by itself: ordinary inputs, the edges, and wrong inputs. */
public final class PromiseTest {
    private static final int NONE = -1, UNKNOWN = -101, OUTSIDE = -102, STATE = -103, FULL = -104;
    private static final int LOW = Integer.MIN_VALUE, HIGH = Integer.MAX_VALUE;
    private static final int[] NO_SLOTS = {-1, 12, LOW, HIGH};
    private static final Due DUE = new Due("PromiseTest");

    public static void main(String[] args) {
        constants();
        promise1NewObject();
        promise2Field();
        promise2FieldPutsBack();
        promise3Plus();
        promise4Times();
        promise5Add();
        promise6Clear();
        promise7Dim();
        promise8Row();
        promise9Join();
        promise10Meet();
        promise11Dual();
        promise12Has();
        promise13Within();
        promise14Apart();
        promise15Number();
        promise16Numbered();
        promise17Many();
        promise18Over();
        promise19Meeting();
        promise20Put();
        promise21Empty();
        promise22Take();
        promise23Least();
        promise24Bare();
        promise25Greedy();
        promise26Image();
        promise27Mapped();
        promise28Map();
        promise29Kernel();
        promise30Round();
        promise31Told();
        promise32Digest();
        DUE.end();
    }

    private static SmallSpaces over(int q, int n) {
        SmallSpaces x = new SmallSpaces();
        x.field(q, n);
        return x;
    }

    private static void rows(String what, SmallSpaces x, int s, int... want) {
        DUE.is(what + ": dim", x.dim(s), want.length);
        for (int i = 0; i < want.length; i++) {
            DUE.is(what + ": row " + i, x.row(s, i), want[i]);
        }
        DUE.is(what + ": row behind the last", x.row(s, want.length), NONE);
    }

    private static void span(SmallSpaces x, int s, int... vectors) {
        x.clear(s);
        for (int v : vectors) {
            x.add(s, v);
        }
    }

    private static long fold(long... numbers) {
        long h = 167;
        for (long x : numbers) {
            h = 31 * h + x;
        }
        return h;
    }

    private static void constants() {
        DUE.is("NONE", SmallSpaces.NONE, NONE);
        DUE.is("UNKNOWN", SmallSpaces.UNKNOWN, UNKNOWN);
        DUE.is("OUTSIDE", SmallSpaces.OUTSIDE, OUTSIDE);
        DUE.is("STATE", SmallSpaces.STATE, STATE);
        DUE.is("FULL", SmallSpaces.FULL, FULL);
    }

    private static void promise1NewObject() {
        SmallSpaces x = new SmallSpaces();
        DUE.is("new: q", x.told(0), 2);
        DUE.is("new: n", x.told(1), 1);
        DUE.is("new: vectors", x.told(2), 2);
        for (int s = 0; s < 12; s++) {
            DUE.is("new: dim(" + s + ")", x.dim(s), 0);
        }
        DUE.is("new: heap", x.told(3), 0);
        DUE.is("new: greedy done", x.told(4), 0);
        DUE.is("new: rounds done", x.told(5), 0);
        DUE.is("new: mapped(1)", x.mapped(1), 1);
        DUE.is("new: digest", x.digest(), fold(2, 1, 0, 0, 0, 0, 0, 0, 0, 0, 0, 0, 0, 0, 1, 0, 0));
    }

    private static void promise2Field() {
        int[][] allowed = {{2, 6}, {3, 5}, {5, 4}};
        for (int[] pair : allowed) {
            int q = pair[0];
            int vectors = 1;
            for (int n = 1; n <= pair[1]; n++) {
                vectors *= q;
                SmallSpaces x = new SmallSpaces();
                DUE.is("field(" + q + ", " + n + ")", x.field(q, n), vectors);
                DUE.is("field: told(0)", x.told(0), q);
                DUE.is("field: told(1)", x.told(1), n);
                DUE.is("field: told(2)", x.told(2), vectors);
            }
        }
        int[][] refused = {{2, 0}, {2, 7}, {2, -1}, {3, 0}, {3, 6}, {5, 0}, {5, 5}, {1, 1}, {4, 2},
            {0, 0}, {6, 1}, {7, 1}, {-2, 1}, {LOW, 1}, {HIGH, 1}, {2, LOW}, {2, HIGH}, {LOW, HIGH}};
        SmallSpaces x = over(3, 2);
        x.add(4, 5);
        x.put(4);
        x.image(0, 7);
        long before = x.digest();
        for (int[] pair : refused) {
            DUE.is("field(" + pair[0] + ", " + pair[1] + ")", x.field(pair[0], pair[1]), OUTSIDE);
            DUE.is("field refused changes nothing", x.digest(), before);
        }
    }

    private static void promise2FieldPutsBack() {
        SmallSpaces x = over(2, 3);
        x.add(0, 5);
        x.add(11, 3);
        x.put(0);
        x.image(1, 7);
        x.greedy(1, 1);
        x.round(0);
        x.round(0);
        DUE.is("field(3, 2)", x.field(3, 2), 9);
        DUE.is("field keeps told(4), told(5) alone", x.digest(),
            fold(3, 2, 0, 0, 0, 0, 0, 0, 0, 0, 0, 0, 0, 0, 3, 1, 1, 2));
        DUE.is("field: heap", x.told(3), 0);
        x.add(0, 4);
        x.image(0, 8);
        DUE.is("field, the same again", x.field(3, 2), 9);
        DUE.is("field, the same again: dim", x.dim(0), 0);
        DUE.is("field, the same again: map", x.mapped(3), 3);
    }

    private static void promise3Plus() {
        SmallSpaces x = over(5, 3);
        DUE.is("plus(7, 9, 3)", x.plus(7, 9, 3), 4 + 5 * 4);
        DUE.is("plus(124, 124, 4)", x.plus(124, 124, 4), 0);
        DUE.is("plus(124, 31, 1)", x.plus(124, 31, 1), 0);
        DUE.is("plus(50, 25, 2)", x.plus(50, 25, 2), 100);
        DUE.is("plus(13, 99, 0)", x.plus(13, 99, 0), 13);
        DUE.is("plus(0, 0, 4)", x.plus(0, 0, 4), 0);
        DUE.is("plus(0, 0, 5)", x.plus(0, 0, 5), OUTSIDE);
        DUE.is("plus(0, 0, -1)", x.plus(0, 0, -1), OUTSIDE);
        DUE.is("plus(1, 1, LOW)", x.plus(1, 1, LOW), OUTSIDE);
        DUE.is("plus(1, 1, HIGH)", x.plus(1, 1, HIGH), OUTSIDE);
        for (int v : new int[] {-1, 125, LOW, HIGH}) {
            DUE.is("plus(" + v + ", 0, 0)", x.plus(v, 0, 0), UNKNOWN);
            DUE.is("plus(0, " + v + ", 0)", x.plus(0, v, 0), UNKNOWN);
            DUE.is("plus(0, " + v + ", 5)", x.plus(0, v, 5), UNKNOWN);
            DUE.is("plus(" + v + ", 0, -1)", x.plus(v, 0, -1), UNKNOWN);
        }
        SmallSpaces y = over(2, 6);
        DUE.is("plus(45, 27, 1)", y.plus(45, 27, 1), 45 ^ 27);
        DUE.is("plus(45, 27, 2)", y.plus(45, 27, 2), OUTSIDE);
        DUE.is("plus(64, 0, 0)", y.plus(64, 0, 0), UNKNOWN);
    }

    private static void promise4Times() {
        SmallSpaces x = over(3, 3);
        DUE.is("times(22, 14)", x.times(22, 14), (2 * 1 + 1 * 1 + 1 * 2) % 3);
        DUE.is("times(13, 13)", x.times(13, 13), 0);
        DUE.is("times(9, 26)", x.times(9, 26), 2);
        DUE.is("times(9, 8)", x.times(9, 8), 0);
        DUE.is("times(0, 26)", x.times(0, 26), 0);
        for (int v : new int[] {-1, 27, LOW, HIGH}) {
            DUE.is("times(" + v + ", 0)", x.times(v, 0), UNKNOWN);
            DUE.is("times(0, " + v + ")", x.times(0, v), UNKNOWN);
        }
        SmallSpaces y = over(5, 2);
        DUE.is("times(19, 23)", y.times(19, 23), (3 * 4 + 4 * 3) % 5);
    }

    private static void promise5Add() {
        SmallSpaces x = over(5, 3);
        DUE.is("add(0, 0)", x.add(0, 0), 0);
        DUE.is("add(0, 14)", x.add(0, 14), 1);
        rows("a row begins with 1", x, 0, 5 + 2);
        DUE.is("add(0, 28)", x.add(0, 28), 2);
        rows("rows by their pivots", x, 0, 25 + 3, 7);
        DUE.is("add(0, a multiple)", x.add(0, 23), 2);
        DUE.is("add(0, 31)", x.add(0, 31), 3);
        rows("all", x, 0, 25, 5, 1);
        DUE.is("add(0, 124)", x.add(0, 124), 3);
        DUE.is("another slot", x.dim(1), 0);
        DUE.is("add(11, 1)", x.add(11, 1), 1);
        long before = x.digest();
        for (int s : NO_SLOTS) {
            DUE.is("add(" + s + ", 1)", x.add(s, 1), UNKNOWN);
        }
        for (int v : new int[] {-1, 125, LOW, HIGH}) {
            DUE.is("add(1, " + v + ")", x.add(1, v), UNKNOWN);
        }
        DUE.is("add refused changes nothing", x.digest(), before);
    }

    private static void promise6Clear() {
        SmallSpaces x = over(2, 4);
        span(x, 3, 9, 5, 2);
        x.add(4, 6);
        DUE.is("clear(3)", x.clear(3), 3);
        DUE.is("clear(3) again", x.clear(3), 0);
        rows("cleared", x, 3);
        rows("another is not cleared", x, 4, 6);
        for (int s : NO_SLOTS) {
            DUE.is("clear(" + s + ")", x.clear(s), UNKNOWN);
        }
        rows("another is not cleared", x, 4, 6);
    }

    private static void promise7Dim() {
        SmallSpaces x = over(2, 6);
        for (int i = 0; i < 6; i++) {
            DUE.is("dim", x.dim(11), i);
            x.add(11, 1 << i);
        }
        DUE.is("dim of all", x.dim(11), 6);
        for (int s : NO_SLOTS) {
            DUE.is("dim(" + s + ")", x.dim(s), UNKNOWN);
        }
    }

    private static void promise8Row() {
        SmallSpaces x = over(3, 4);
        span(x, 2, 27 + 18 + 3 + 2, 9 + 6 + 1);
        rows("two rows", x, 2, 27 + 0 + 0 + 0, 9 + 6 + 1);
        for (int i : new int[] {-1, 2, 4, LOW, HIGH}) {
            DUE.is("row(2, " + i + ")", x.row(2, i), NONE);
        }
        DUE.is("row(0, 0)", x.row(0, 0), NONE);
        for (int s : NO_SLOTS) {
            DUE.is("row(" + s + ", 0)", x.row(s, 0), UNKNOWN);
            DUE.is("row(" + s + ", -1)", x.row(s, -1), UNKNOWN);
        }
    }

    private static void promise9Join() {
        SmallSpaces x = over(3, 3);
        span(x, 0, 9 + 2);
        span(x, 1, 3 + 1);
        DUE.is("join(0, 1, 2)", x.join(0, 1, 2), 2);
        rows("joined", x, 2, 11, 4);
        rows("its sources stay", x, 0, 11);
        rows("its sources stay", x, 1, 4);
        DUE.is("join(2, 0, 0)", x.join(2, 0, 0), 2);
        rows("into its first", x, 0, 11, 4);
        span(x, 5, 1);
        DUE.is("join(0, 5, 5)", x.join(0, 5, 5), 3);
        rows("into its second", x, 5, 9, 3, 1);
        DUE.is("join(1, 1, 1)", x.join(1, 1, 1), 1);
        DUE.is("join with 0", x.join(1, 9, 10), 1);
        rows("with 0", x, 10, 4);
        long before = x.digest();
        for (int s : NO_SLOTS) {
            DUE.is("join(" + s + ", 1, 2)", x.join(s, 1, 2), UNKNOWN);
            DUE.is("join(1, " + s + ", 2)", x.join(1, s, 2), UNKNOWN);
            DUE.is("join(5, 1, " + s + ")", x.join(5, 1, s), UNKNOWN);
        }
        DUE.is("join refused changes nothing", x.digest(), before);
    }

    private static void promise10Meet() {
        SmallSpaces x = over(5, 3);
        span(x, 0, 25, 5);
        span(x, 1, 26, 7);
        DUE.is("meet(0, 1, 2)", x.meet(0, 1, 2), 1);
        // 2 times 25+1, less 5+2: (2, -1, 0), which is 2 times (1, 2, 0).
        rows("met", x, 2, 25 + 10);
        rows("its sources stay", x, 0, 25, 5);
        rows("its sources stay", x, 1, 26, 7);
        DUE.is("meet(0, 3, 4)", x.meet(0, 3, 4), 0);
        span(x, 5, 1);
        DUE.is("meet(0, 5, 6)", x.meet(0, 5, 6), 0);
        DUE.is("meet(1, 1, 7)", x.meet(1, 1, 7), 2);
        rows("with itself", x, 7, 26, 7);
        DUE.is("meet(0, 1, 0)", x.meet(0, 1, 0), 1);
        rows("into its first", x, 0, 35);
        DUE.is("meet(0, 1, 1)", x.meet(0, 1, 1), 1);
        rows("into its second", x, 1, 35);
        long before = x.digest();
        for (int s : NO_SLOTS) {
            DUE.is("meet(" + s + ", 1, 7)", x.meet(s, 1, 7), UNKNOWN);
            DUE.is("meet(1, " + s + ", 7)", x.meet(1, s, 7), UNKNOWN);
            DUE.is("meet(1, 5, " + s + ")", x.meet(1, 5, s), UNKNOWN);
        }
        DUE.is("meet refused changes nothing", x.digest(), before);
    }

    private static void promise11Dual() {
        SmallSpaces x = over(3, 3);
        span(x, 0, 9 + 3 + 2);
        DUE.is("dual(0, 1)", x.dual(0, 1), 2);
        // (1, 0, c) with 1 + 2c = 0, (0, 1, c) likewise.
        rows("dual", x, 1, 9 + 1, 3 + 1);
        rows("its source stays", x, 0, 14);
        DUE.is("dual(1, 1)", x.dual(1, 1), 1);
        rows("back, into itself", x, 1, 14);
        DUE.is("dual of 0", x.dual(5, 6), 3);
        rows("dual of 0", x, 6, 9, 3, 1);
        DUE.is("dual of all", x.dual(6, 7), 0);
        span(x, 8, 13);
        x.dual(8, 9);
        DUE.is("a space may lie in its dual", x.within(8, 9), 1);
        long before = x.digest();
        for (int s : NO_SLOTS) {
            DUE.is("dual(" + s + ", 0)", x.dual(s, 0), UNKNOWN);
            DUE.is("dual(5, " + s + ")", x.dual(5, s), UNKNOWN);
        }
        DUE.is("dual refused changes nothing", x.digest(), before);
    }

    private static void promise12Has() {
        SmallSpaces x = over(5, 2);
        span(x, 0, 5 + 3);
        for (int v = 0; v < 25; v++) {
            boolean multiple = v == 0 || v == 8 || v == 11 || v == 19 || v == 22;
            DUE.is("has(0, " + v + ")", x.has(0, v), multiple ? 1 : 0);
            DUE.is("has(1, " + v + ")", x.has(1, v), v == 0 ? 1 : 0);
        }
        x.add(0, 1);
        DUE.is("all has 24", x.has(0, 24), 1);
        for (int s : NO_SLOTS) {
            DUE.is("has(" + s + ", 0)", x.has(s, 0), UNKNOWN);
        }
        for (int v : new int[] {-1, 25, LOW, HIGH}) {
            DUE.is("has(0, " + v + ")", x.has(0, v), UNKNOWN);
        }
    }

    private static void promise13Within() {
        SmallSpaces x = over(2, 4);
        span(x, 0, 9, 6);
        span(x, 1, 15);
        span(x, 2, 9, 6, 1);
        span(x, 3, 14);
        DUE.is("within(1, 0)", x.within(1, 0), 1);
        DUE.is("within(0, 1)", x.within(0, 1), 0);
        DUE.is("within(0, 2)", x.within(0, 2), 1);
        DUE.is("within(2, 0)", x.within(2, 0), 0);
        DUE.is("within(3, 0)", x.within(3, 0), 0);
        DUE.is("within(0, 0)", x.within(0, 0), 1);
        DUE.is("within(9, 0)", x.within(9, 0), 1);
        DUE.is("within(9, 10)", x.within(9, 10), 1);
        DUE.is("within(0, 9)", x.within(0, 9), 0);
        for (int s : NO_SLOTS) {
            DUE.is("within(" + s + ", 0)", x.within(s, 0), UNKNOWN);
            DUE.is("within(0, " + s + ")", x.within(0, s), UNKNOWN);
        }
    }

    private static void promise14Apart() {
        SmallSpaces x = over(2, 6);
        span(x, 0, 32, 16, 8);
        span(x, 1, 4, 2, 1);
        span(x, 2, 32, 16, 4);
        span(x, 3, 32);
        DUE.is("apart(0, 1)", x.apart(0, 1), 6);
        DUE.is("apart(0, 2)", x.apart(0, 2), 2);
        DUE.is("apart(0, 3)", x.apart(0, 3), 2);
        DUE.is("apart(3, 0)", x.apart(3, 0), 2);
        DUE.is("apart(1, 3)", x.apart(1, 3), 4);
        DUE.is("apart(0, 0)", x.apart(0, 0), 0);
        DUE.is("apart(4, 0)", x.apart(4, 0), 3);
        DUE.is("apart(4, 5)", x.apart(4, 5), 0);
        rows("apart changes nothing", x, 0, 32, 16, 8);
        for (int s : NO_SLOTS) {
            DUE.is("apart(" + s + ", 0)", x.apart(s, 0), UNKNOWN);
            DUE.is("apart(0, " + s + ")", x.apart(0, s), UNKNOWN);
        }
    }

    /** All lines and planes of 3 places over 2 numbers, in the order of their numbers. */
    private static final int[] LINES = {4, 5, 6, 7, 2, 3, 1};
    private static final int[][] PLANES = {{4, 2}, {4, 3}, {5, 2}, {5, 3}, {4, 1}, {6, 1}, {2, 1}};

    private static void promise15Number() {
        SmallSpaces x = over(2, 3);
        DUE.is("number of 0", x.number(0), 0);
        for (int r = 0; r < 7; r++) {
            span(x, 1, LINES[r]);
            DUE.is("number of line " + r, x.number(1), r);
            span(x, 2, PLANES[r]);
            DUE.is("number of plane " + r, x.number(2), r);
        }
        span(x, 3, 1, 2, 4);
        DUE.is("number of all", x.number(3), 0);
        for (int s : NO_SLOTS) {
            DUE.is("number(" + s + ")", x.number(s), UNKNOWN);
        }
        SmallSpaces y = over(3, 2);
        int[] lines = {3, 4, 5, 1};
        for (int r = 0; r < 4; r++) {
            span(y, 0, lines[r]);
            DUE.is("number of line " + r + " over 3", y.number(0), r);
        }
        SmallSpaces z = over(3, 4);
        span(z, 0, 27 + 3 * 1 + 2, 9 + 3 * 2 + 1);
        DUE.is("figures of row 0, then row 1", z.number(0), 27 * 1 + 9 * 2 + 3 * 2 + 1);
    }

    private static void promise16Numbered() {
        SmallSpaces x = over(2, 3);
        for (int r = 0; r < 7; r++) {
            DUE.is("numbered(1, 1, " + r + ")", x.numbered(1, 1, r), 1);
            rows("line " + r, x, 1, LINES[r]);
            DUE.is("numbered(1, 2, " + r + ")", x.numbered(1, 2, r), 2);
            rows("plane " + r, x, 1, PLANES[r]);
        }
        DUE.is("numbered(1, 0, 0)", x.numbered(1, 0, 0), 0);
        rows("numbered 0", x, 1);
        DUE.is("numbered(1, 3, 0)", x.numbered(1, 3, 0), 3);
        rows("numbered all", x, 1, 4, 2, 1);
        long before = x.digest();
        int[][] refused = {{-1, 0}, {4, 0}, {LOW, 0}, {HIGH, 0}, {1, 7}, {1, -1}, {2, 7}, {0, 1},
            {3, 1}, {2, LOW}, {2, HIGH}, {0, -1}};
        for (int[] pair : refused) {
            DUE.is("numbered(1, " + pair[0] + ", " + pair[1] + ")",
                x.numbered(1, pair[0], pair[1]), OUTSIDE);
        }
        for (int s : NO_SLOTS) {
            DUE.is("numbered(" + s + ", 1, 1)", x.numbered(s, 1, 1), UNKNOWN);
            DUE.is("numbered(" + s + ", 9, 1)", x.numbered(s, 9, 1), UNKNOWN);
            DUE.is("numbered(" + s + ", 1, 9)", x.numbered(s, 1, 9), UNKNOWN);
        }
        DUE.is("numbered refused changes nothing", x.digest(), before);
        thereAndBack(2, 6, 3, 1395);
        thereAndBack(3, 5, 2, 1210);
        thereAndBack(5, 4, 2, 806);
        thereAndBack(5, 4, 3, 156);
    }

    private static void thereAndBack(int q, int n, int k, int many) {
        SmallSpaces x = over(q, n);
        for (int r = 0; r < many; r++) {
            if (r % 200 == 0) {
                x = over(q, n);
            }
            DUE.is("numbered(0, " + k + ", " + r + ")", x.numbered(0, k, r), k);
            DUE.is("number of " + r, x.number(0), r);
        }
        DUE.is("numbered, one too far", x.numbered(0, k, many), OUTSIDE);
    }

    private static void promise17Many() {
        int[][] due = {{1, 63, 651, 1395, 651, 63, 1}, {1, 121, 1210, 1210, 121, 1},
            {1, 156, 806, 156, 1}, {1, 1}};
        SmallSpaces[] of = {over(2, 6), over(3, 5), over(5, 4), new SmallSpaces()};
        for (int i = 0; i < of.length; i++) {
            for (int k = 0; k < due[i].length; k++) {
                DUE.is("many(" + k + ")", of[i].many(k), due[i][k]);
            }
            for (int k : new int[] {-1, due[i].length, 7, LOW, HIGH}) {
                DUE.is("many(" + k + ")", of[i].many(k), 0);
            }
        }
    }

    private static void promise18Over() {
        SmallSpaces x = over(2, 4);
        span(x, 1, 9);
        span(x, 2, 9, 4);
        span(x, 4, 1, 2, 4, 8);
        int[][] due = {{1, 15, 35, 15, 1}, {0, 1, 7, 7, 1}, {0, 0, 1, 3, 1}};
        for (int s = 0; s < due.length; s++) {
            for (int k = 0; k <= 4; k++) {
                DUE.is("over(" + s + ", " + k + ")", x.over(s, k), due[s][k]);
            }
        }
        DUE.is("over(4, 4)", x.over(4, 4), 1);
        DUE.is("over(4, 3)", x.over(4, 3), 0);
        for (int k : new int[] {-1, 5, LOW, HIGH}) {
            DUE.is("over(1, " + k + ")", x.over(1, k), 0);
        }
        for (int s : NO_SLOTS) {
            DUE.is("over(" + s + ", 1)", x.over(s, 1), UNKNOWN);
            DUE.is("over(" + s + ", -1)", x.over(s, -1), UNKNOWN);
        }
    }

    private static void promise19Meeting() {
        SmallSpaces x = over(3, 3);
        span(x, 1, 9, 3);
        // Of 13 lines 4 lie in a plane; of 13 planes one is it, the others meet it in a line.
        int[][] due = {{1, 0, 0}, {9, 4, 0}, {0, 12, 1}, {0, 0, 1}};
        for (int k = 0; k <= 3; k++) {
            for (int j = 0; j <= 2; j++) {
                DUE.is("meeting(1, " + k + ", " + j + ")", x.meeting(1, k, j), due[k][j]);
            }
            DUE.is("meeting(1, " + k + ", 3)", x.meeting(1, k, 3), 0);
        }
        DUE.is("meeting(0, 2, 0)", x.meeting(0, 2, 0), 13);
        DUE.is("meeting(0, 2, 1)", x.meeting(0, 2, 1), 0);
        for (int wrong : new int[] {-1, 4, LOW, LOW + 1, HIGH}) {
            DUE.is("meeting(1, " + wrong + ", 1)", x.meeting(1, wrong, 1), 0);
            DUE.is("meeting(1, 2, " + wrong + ")", x.meeting(1, 2, wrong), 0);
            DUE.is("meeting(1, " + wrong + ", " + wrong + ")", x.meeting(1, wrong, wrong), 0);
        }
        for (int s : NO_SLOTS) {
            DUE.is("meeting(" + s + ", 1, 1)", x.meeting(s, 1, 1), UNKNOWN);
            DUE.is("meeting(" + s + ", -1, 9)", x.meeting(s, -1, 9), UNKNOWN);
        }
    }

    private static void promise20Put() {
        SmallSpaces x = over(2, 3);
        x.add(0, 5);
        for (int i = 1; i <= 40; i++) {
            DUE.is("put", x.put(i == 3 ? 1 : 0), i);
        }
        x.add(0, 2);
        long before = x.digest();
        DUE.is("put, the 41st", x.put(0), FULL);
        for (int s : NO_SLOTS) {
            DUE.is("put(" + s + ")", x.put(s), UNKNOWN);
        }
        DUE.is("put refused changes nothing", x.digest(), before);
        DUE.is("take what was put third", x.take(5, 2), 0);
        DUE.is("take what was put last", x.take(5, 39), 1);
        rows("what was put stays as it was", x, 5, 5);
    }

    private static void promise21Empty() {
        SmallSpaces x = over(2, 3);
        DUE.is("empty() at first", x.empty(), 0);
        x.put(0);
        x.put(0);
        DUE.is("empty()", x.empty(), 2);
        DUE.is("empty: told(3)", x.told(3), 0);
        DUE.is("empty() again", x.empty(), 0);
        DUE.is("take from it", x.take(0, 0), UNKNOWN);
        DUE.is("put into it", x.put(0), 1);
    }

    private static void promise22Take() {
        SmallSpaces x = over(3, 2);
        DUE.is("take of none", x.take(0, 0), UNKNOWN);
        x.add(0, 4);
        x.put(1);
        x.put(0);
        DUE.is("take(3, 1)", x.take(3, 1), 1);
        rows("taken", x, 3, 4);
        DUE.is("take(3, 0)", x.take(3, 0), 0);
        rows("taken 0", x, 3);
        x.take(4, 1);
        x.add(4, 1);
        x.take(5, 1);
        rows("the heap keeps its own", x, 5, 4);
        DUE.is("the heap keeps how many", x.told(3), 2);
        long before = x.digest();
        for (int i : new int[] {-1, 2, 40, LOW, HIGH}) {
            DUE.is("take(0, " + i + ")", x.take(0, i), UNKNOWN);
        }
        for (int s : NO_SLOTS) {
            DUE.is("take(" + s + ", 0)", x.take(s, 0), UNKNOWN);
        }
        DUE.is("take refused changes nothing", x.digest(), before);
    }

    private static void promise23Least() {
        SmallSpaces x = over(2, 4);
        span(x, 0, 8, 4);
        span(x, 1, 2, 1);
        span(x, 2, 8, 1);
        span(x, 3, 8);
        DUE.is("least() of none", x.least(), NONE);
        x.put(0);
        DUE.is("least() of one", x.least(), NONE);
        x.put(1);
        DUE.is("least() of two", x.least(), 4);
        x.put(2);
        DUE.is("least() of three", x.least(), 2);
        x.put(3);
        DUE.is("least() of four", x.least(), 1);
        x.put(1);
        DUE.is("least() with one twice", x.least(), 0);
        x.put(4);
        DUE.is("least() stays", x.least(), 0);
    }

    private static void promise24Bare() {
        SmallSpaces x = over(3, 3);
        DUE.is("bare() of no heap", x.bare(), 27);
        x.put(0);
        DUE.is("bare() of 0", x.bare(), 26);
        span(x, 1, 9, 3);
        x.put(1);
        DUE.is("bare() of a plane", x.bare(), 18);
        span(x, 2, 9, 1);
        x.put(2);
        DUE.is("bare() of two planes", x.bare(), 12);
        x.put(2);
        DUE.is("bare() of one twice", x.bare(), 12);
        x.dual(0, 3);
        x.put(3);
        DUE.is("bare() of all", x.bare(), 0);
        x.empty();
        DUE.is("bare() of an emptied heap", x.bare(), 27);
    }

    private static void promise25Greedy() {
        SmallSpaces x = over(2, 4);
        x.put(0);
        long before = x.digest();
        int[][] refused = {{-1, 1}, {5, 1}, {LOW, 1}, {HIGH, 1}, {2, 0}, {2, 13}, {2, LOW}, {2, HIGH}};
        for (int[] pair : refused) {
            DUE.is("greedy(" + pair[0] + ", " + pair[1] + ")", x.greedy(pair[0], pair[1]), OUTSIDE);
        }
        DUE.is("greedy refused changes nothing", x.digest(), before);
        DUE.is("greedy(2, 4)", x.greedy(2, 4), 5);
        DUE.is("a spread leaves none bare", x.bare(), 0);
        DUE.is("a spread keeps apart", x.least(), 4);
        x.take(0, 0);
        rows("the first that comes", x, 0, 8, 4);
        x.take(0, 1);
        // Behind the pivots of the second must stand what can be undone: first 01, 10.
        rows("the second that comes", x, 0, 9, 6);
        DUE.is("greedy(2, 3)", x.greedy(2, 3), 5);
        DUE.is("greedy(2, 2)", x.greedy(2, 2), 35);
        DUE.is("greedy(2, 5)", x.greedy(2, 5), 1);
        DUE.is("greedy(0, 1)", x.greedy(0, 1), 1);
        DUE.is("greedy(4, 12)", x.greedy(4, 12), 1);
        x.field(2, 6);
        DUE.is("greedy(3, 1), 40 at most", x.greedy(3, 1), 40);
        x.take(0, 39);
        DUE.is("the last that comes", x.number(0), 39);
        DUE.is("greedy(3, 6)", x.greedy(3, 6), 9);
        DUE.is("greedy(1, 2)", x.greedy(1, 2), 40);
        DUE.is("greedy, the tenth", x.greedy(6, 1), 1);
        DUE.is("greedy: told(4)", x.told(4), 10);
        x.empty();
        before = x.digest();
        DUE.is("greedy, the eleventh", x.greedy(3, 1), STATE);
        DUE.is("greedy(7, 1) then", x.greedy(7, 1), OUTSIDE);
        DUE.is("greedy(3, 13) then", x.greedy(3, 13), OUTSIDE);
        DUE.is("greedy refused changes nothing", x.digest(), before);
        x.field(2, 2);
        DUE.is("greedy, behind a new field", x.greedy(1, 1), STATE);
    }

    private static void promise26Image() {
        SmallSpaces x = over(5, 3);
        DUE.is("image(0, 7)", x.image(0, 7), 25);
        DUE.is("image(1, 124)", x.image(1, 124), 5);
        DUE.is("image(2, 0)", x.image(2, 0), 1);
        DUE.is("image(0, 1)", x.image(0, 1), 7);
        DUE.is("image(1, 1)", x.image(1, 1), 124);
        DUE.is("image(2, 1)", x.image(2, 1), 0);
        long before = x.digest();
        for (int i : new int[] {-1, 3, 6, LOW, HIGH}) {
            DUE.is("image(" + i + ", 0)", x.image(i, 0), UNKNOWN);
        }
        for (int v : new int[] {-1, 125, LOW, HIGH}) {
            DUE.is("image(0, " + v + ")", x.image(0, v), UNKNOWN);
        }
        DUE.is("image refused changes nothing", x.digest(), before);
    }

    private static void promise27Mapped() {
        SmallSpaces x = over(3, 3);
        for (int v = 0; v < 27; v++) {
            DUE.is("mapped(" + v + ") at first", x.mapped(v), v);
        }
        x.image(0, 9 + 3);
        x.image(1, 2);
        x.image(2, 0);
        DUE.is("mapped(0)", x.mapped(0), 0);
        DUE.is("mapped(9)", x.mapped(9), 12);
        DUE.is("mapped(18)", x.mapped(18), 24);
        DUE.is("mapped(3)", x.mapped(3), 2);
        DUE.is("mapped(6)", x.mapped(6), 1);
        DUE.is("mapped(1)", x.mapped(1), 0);
        DUE.is("mapped(25)", x.mapped(25), 24 + 1);
        for (int v : new int[] {-1, 27, LOW, HIGH}) {
            DUE.is("mapped(" + v + ")", x.mapped(v), UNKNOWN);
        }
    }

    private static void promise28Map() {
        SmallSpaces x = over(3, 3);
        span(x, 0, 9, 3);
        x.image(0, 2);
        x.image(1, 9 + 1);
        x.image(2, 2);
        DUE.is("map(0, 1)", x.map(0, 1), 2);
        rows("mapped", x, 1, 9, 1);
        rows("its source stays", x, 0, 9, 3);
        span(x, 2, 9, 1);
        DUE.is("map(2, 3)", x.map(2, 3), 1);
        rows("mapped to less", x, 3, 1);
        DUE.is("map(2, 2)", x.map(2, 2), 1);
        rows("mapped to itself", x, 2, 1);
        DUE.is("map of 0", x.map(8, 1), 0);
        long before = x.digest();
        for (int s : NO_SLOTS) {
            DUE.is("map(" + s + ", 1)", x.map(s, 1), UNKNOWN);
            DUE.is("map(0, " + s + ")", x.map(0, s), UNKNOWN);
        }
        DUE.is("map refused changes nothing", x.digest(), before);
    }

    private static void promise29Kernel() {
        SmallSpaces x = over(5, 3);
        x.add(0, 7);
        DUE.is("kernel at first", x.kernel(0), 0);
        rows("kernel at first", x, 0);
        x.image(0, 7);
        x.image(1, 14);
        DUE.is("kernel(1)", x.kernel(1), 1);
        // 2 times place 0's vector less place 1's: (2, -1, 0), or (1, 2, 0).
        rows("kernel", x, 1, 35);
        x.image(2, 0);
        DUE.is("kernel(2)", x.kernel(2), 2);
        rows("kernel, larger", x, 2, 35, 1);
        x.image(0, 0);
        x.image(1, 0);
        DUE.is("kernel of what makes 0 of all", x.kernel(11), 3);
        long before = x.digest();
        for (int s : NO_SLOTS) {
            DUE.is("kernel(" + s + ")", x.kernel(s), UNKNOWN);
        }
        DUE.is("kernel refused changes nothing", x.digest(), before);
    }

    private static void promise30Round() {
        SmallSpaces x = over(5, 4);
        span(x, 0, 125);
        span(x, 1, 125, 25, 5, 1);
        DUE.is("round at first", x.round(0), 1);
        x.image(0, 25);
        x.image(1, 5);
        x.image(2, 1);
        x.image(3, 125);
        DUE.is("round of a turn", x.round(0), 4);
        DUE.is("round of all", x.round(1), 1);
        DUE.is("round of 0", x.round(2), 1);
        span(x, 3, 125, 5);
        DUE.is("round of half a turn", x.round(3), 2);
        x.image(3, 0);
        DUE.is("round: it falls away", x.round(0), NONE);
        DUE.is("round of 0 then", x.round(2), 1);
        x.image(3, 1);
        span(x, 4, 1 + 125);
        DUE.is("round: it stays but never comes again", x.round(4), NONE);
        DUE.is("round: told(5)", x.told(5), 8);
        longestRounds(x);
        for (int s : NO_SLOTS) {
            DUE.is("round(" + s + ")", x.round(s), UNKNOWN);
        }
        DUE.is("round: told(5), refused do not count", x.told(5), 10);
        for (int i = 10; i < 60; i++) {
            DUE.is("round, time " + i, x.round(2), 1);
        }
        long before = x.digest();
        DUE.is("round, the 61st", x.round(2), STATE);
        DUE.is("round(12) then", x.round(12), UNKNOWN);
        DUE.is("round refused changes nothing", x.digest(), before);
        x.field(2, 1);
        DUE.is("round, behind a new field", x.round(0), STATE);
    }

    /** A root of a primitive polynomial takes a line through all lines. */
    private static void longestRounds(SmallSpaces x) {
        x.field(2, 6);
        // x^6 = 1 + x
        turn(x, 32, 6, 2, 32 + 16);
        x.add(0, 32);
        DUE.is("round over 2 of 6", x.round(0), 63);
        x.field(5, 4);
        // x^4 = 3 + x + x^2
        turn(x, 125, 4, 5, 125 * 3 + 25 + 5);
        x.add(0, 125);
        DUE.is("round over 5 of 4", x.round(0), 156);
    }

    private static void turn(SmallSpaces x, int first, int n, int q, int last) {
        int v = first;
        for (int i = 0; i + 1 < n; i++) {
            v /= q;
            x.image(i, v);
        }
        x.image(n - 1, last);
    }

    private static void promise31Told() {
        SmallSpaces x = over(3, 4);
        x.greedy(1, 2);
        x.greedy(0, 1);
        x.round(0);
        x.put(0);
        int[] due = {3, 4, 81, 2, 2, 1};
        for (int what = 0; what < due.length; what++) {
            DUE.is("told(" + what + ")", x.told(what), due[what]);
        }
        for (int what : new int[] {-1, 6, LOW, HIGH}) {
            DUE.is("told(" + what + ")", x.told(what), OUTSIDE);
        }
    }

    private static void promise32Digest() {
        SmallSpaces x = over(5, 2);
        x.add(0, 8);
        x.add(11, 6);
        x.add(11, 2);
        x.put(11);
        x.put(1);
        x.put(0);
        x.image(1, 9);
        x.round(0);
        DUE.is("digest()", x.digest(), fold(5, 2,
            1, 8, 0, 0, 0, 0, 0, 0, 0, 0, 0, 0, 2, 5, 1,
            2, 5, 1, 0, 1, 8,
            5, 9,
            0, 1));
        DUE.is("digest() changes nothing", x.digest(), x.digest());
        x.greedy(2, 1);
        DUE.is("digest() behind greedy", x.digest(), fold(5, 2,
            1, 8, 0, 0, 0, 0, 0, 0, 0, 0, 0, 0, 2, 5, 1,
            2, 5, 1,
            5, 9,
            1, 1));
    }
}
