/** What the tests of boundary cases share: objects amid their use, and refusals that change nothing. */
final class Edges {
    static final int NONE = -1, UNKNOWN = -101, OUTSIDE = -102, STATE = -103, FULL = -104;
    static final int LOW = Integer.MIN_VALUE, HIGH = Integer.MAX_VALUE;
    static final int[] NO_SLOTS = {-1, 12, LOW, HIGH};
    /** Each field, with the greatest n that it has. */
    static final int[][] WIDEST = {{2, 6}, {3, 5}, {5, 4}};

    interface Call {
        int on(SmallSpaces x);
    }

    interface SlotCall {
        int on(SmallSpaces x, int s);
    }

    interface EachField {
        void with(int q, int n);
    }

    private final Due due;

    Edges(Due due) {
        this.due = due;
    }

    static void eachField(EachField test) {
        for (int[] pair : WIDEST) {
            for (int n = 1; n <= pair[1]; n++) {
                test.with(pair[0], n);
            }
        }
    }

    static int power(int q, int exponent) {
        int product = 1;
        for (int i = 0; i < exponent; i++) {
            product *= q;
        }
        return product;
    }

    /** The vector with a 1 at one place alone. */
    static int unit(int q, int n, int place) {
        return power(q, n - 1 - place);
    }

    /** The least numbers beyond either side of 0 to count less 1, and the wildest. */
    static int[] beyond(int count) {
        return new int[] {-1, count, count + 1, LOW, HIGH};
    }

    static SmallSpaces fresh(int q, int n) {
        SmallSpaces x = new SmallSpaces();
        x.field(q, n);
        return x;
    }

    /** An object in which nothing is as at first: 0 alone, more, and all in slots, a heap, a map, counts. */
    static SmallSpaces busy(int q, int n) {
        SmallSpaces x = fresh(q, n);
        int last = power(q, n) - 1;
        x.greedy(0, 1);
        x.round(0);
        x.round(0);
        x.add(0, 1);
        x.add(1, last);
        x.join(0, 1, 2);
        x.dual(1, 3);
        x.dual(11, 10);
        x.put(0);
        x.put(3);
        x.put(10);
        x.image(0, 1);
        x.image(n - 1, last);
        return x;
    }

    static void span(SmallSpaces x, int s, int... vectors) {
        x.clear(s);
        for (int v : vectors) {
            x.add(s, v);
        }
    }

    /** Slot s becomes all. */
    static void fill(SmallSpaces x, int s) {
        x.clear(s);
        x.dual(s, s);
    }

    static long fold(long... numbers) {
        long h = 167;
        for (long number : numbers) {
            h = 31 * h + number;
        }
        return h;
    }

    void rows(String what, SmallSpaces x, int s, int... want) {
        due.is(what + ": dim", x.dim(s), want.length);
        for (int i = 0; i < want.length; i++) {
            due.is(what + ": row " + i, x.row(s, i), want[i]);
        }
        due.is(what + ": row behind the last", x.row(s, want.length), NONE);
    }

    /** The call is refused by a busy object of the field, and all is then as if it had not been made. */
    void refused(int q, int n, String what, int want, Call call) {
        refused(busy(q, n), busy(q, n), "over " + q + " of " + n + ": " + what, want, call);
    }

    /** The same, by the first of two objects that are in one state. */
    void refused(SmallSpaces x, SmallSpaces twin, String what, int want, Call call) {
        due.is(what, call.on(x), want);
        due.is(what + ": refused, the digest stays", x.digest(), twin.digest());
        for (int i = 0; i <= 5; i++) {
            due.is(what + ": refused, told(" + i + ") stays", x.told(i), twin.told(i));
        }
        due.is(what + ": refused, later answers stay", later(x), later(twin));
    }

    /** Some forty answers in one number; it changes the object. */
    private static long later(SmallSpaces x) {
        long h = 7;
        int last = x.told(2) - 1;
        int[] answers = {x.row(2, 0), x.row(2, 1), x.bare(), x.least(), x.take(4, 1), x.take(5, 39), x.mapped(last),
            x.map(10, 6), x.map(1, 7), x.kernel(8), x.round(1), x.meet(2, 3, 9), x.number(2), x.over(0, 1),
            x.meeting(2, 1, 1), x.put(1), x.plus(last, last, 1), x.times(last, 1), x.has(3, last), x.within(0, 2),
            x.apart(1, 10), x.greedy(1, 1), x.least(), x.bare(), x.told(3), x.told(4), x.told(5), x.clear(10)};
        for (int answer : answers) {
            h = 31 * h + answer;
        }
        return 31 * h + x.digest();
    }

    /** Numbers that are no slot are refused as UNKNOWN, with 0 and 11 (tested apart) the outermost that are. */
    void onlySlots(String what, SlotCall call) {
        for (int s : NO_SLOTS) {
            refused(3, 3, what + ", slot " + s, UNKNOWN, x -> call.on(x, s));
        }
    }

    /** The call answers the same for each of the slots 0 to 11 of a new object of the field. */
    void eachSlot(String what, int q, int n, int want, SlotCall call) {
        for (int s = 0; s <= 11; s++) {
            due.is(what + ", slot " + s, call.on(fresh(q, n), s), want);
        }
    }

    /** The call changes no slot but the told one. */
    void noOtherSlot(String what, SlotCall call) {
        for (int s = 0; s <= 11; s++) {
            SmallSpaces x = busy(3, 3);
            SmallSpaces twin = busy(3, 3);
            call.on(x, s);
            for (int other = 0; other <= 11; other++) {
                if (other != s) {
                    due.is(what + ", to " + s + ", slot " + other, table(x, other), table(twin, other));
                }
            }
        }
    }

    private static long table(SmallSpaces x, int s) {
        long h = x.dim(s);
        for (int i = 0; i < x.dim(s); i++) {
            h = h * 1000 + x.row(s, i);
        }
        return h;
    }
}
