/** The boundary cases of promises 20 to 25, each sentence by itself: the heap, empty and full, and greedy. */
public final class HeapEdgesTest {
    private static final Due DUE = new Due("HeapEdgesTest");
    private static final Edges EDGES = new Edges(DUE);

    public static void main(String[] args) {
        putTakesSlots0To11();
        putTakes40AndNoMore();
        putTellsUnknownAheadOfFull();
        putMayGoOnBehindEmptyAndField();
        putTakesTheSameAgainAnd0();
        whatWasPutStays();
        emptyOfNoneOfOneOf40();
        emptyChangesNothingElse();
        takeTakesSlots0To11();
        takeTakesWhatIsInTheHeap();
        takeOfTheFullHeap();
        takeOfNone();
        takeLeavesTheHeap();
        leastOfLessThanTwoIsNone();
        leastFindsEachPair();
        leastFrom0ToN();
        bareOfNoneIsAll();
        bareOf0AloneAndOfAll();
        bareOfTheFullHeap();
        greedyTakesKFrom0ToN();
        greedyTakesDFrom1To12();
        greedyTakesWhatIsJustDApart();
        greedyBringsAllOr40();
        greedyGoesByNumbers();
        greedyMakesTheHeapAnew();
        greedyMayBeDone10Times();
        greedyTellsOutsideAheadOfState();
        greedyRefusedIsNotCounted();
        greedyIsCountedOverFields();
        DUE.end();
    }

    private static SmallSpaces withHeap(int q, int n, int size) {
        SmallSpaces x = Edges.fresh(q, n);
        for (int i = 0; i < size; i++) {
            x.numbered(0, 1, i);
            x.put(0);
        }
        x.clear(0);
        return x;
    }

    private static void putTakesSlots0To11() {
        EDGES.eachSlot("put(s)", 3, 2, 1, (x, s) -> x.put(s));
        EDGES.eachSlot("put(s), then take", 3, 2, 1, (x, s) -> {
            x.add(s, 1);
            x.put(s);
            return x.take((s + 1) % 12, 0);
        });
        EDGES.onlySlots("put(s)", (x, s) -> x.put(s));
    }

    private static void putTakes40AndNoMore() {
        for (int[] pair : Edges.WIDEST) {
            SmallSpaces x = Edges.fresh(pair[0], pair[1]);
            for (int i = 1; i <= 40; i++) {
                DUE.is("put, time " + i, x.put(0), i);
                DUE.is("put, time " + i + ": told(3)", x.told(3), i);
            }
            DUE.is("put, the 41st", x.put(0), Edges.FULL);
            DUE.is("put, the 42nd", x.put(11), Edges.FULL);
            DUE.is("put, the 42nd: told(3)", x.told(3), 40);
        }
        EDGES.refused(withHeap(2, 6, 40), withHeap(2, 6, 40), "put into 40", Edges.FULL, x -> x.put(5));
        EDGES.refused(greedyFull(), greedyFull(), "put into 40 of greedy", Edges.FULL, x -> x.put(5));
        DUE.is("put into 39", withHeap(2, 6, 39).put(5), 40);
    }

    private static SmallSpaces greedyFull() {
        SmallSpaces x = Edges.fresh(5, 4);
        x.greedy(2, 1);
        return x;
    }

    private static void putTellsUnknownAheadOfFull() {
        for (int s : Edges.NO_SLOTS) {
            EDGES.refused(withHeap(2, 6, 40), withHeap(2, 6, 40), "put(" + s + ") into 40", Edges.UNKNOWN,
                x -> x.put(s));
        }
    }

    private static void putMayGoOnBehindEmptyAndField() {
        SmallSpaces x = withHeap(2, 6, 40);
        DUE.is("put into 40", x.put(0), Edges.FULL);
        DUE.is("empty()", x.empty(), 40);
        DUE.is("put behind empty", x.put(0), 1);
        SmallSpaces y = withHeap(2, 6, 40);
        y.field(2, 6);
        DUE.is("put behind field", y.put(0), 1);
        SmallSpaces z = withHeap(2, 6, 40);
        z.greedy(0, 1);
        DUE.is("put behind greedy", z.put(0), 2);
    }

    private static void putTakesTheSameAgainAnd0() {
        SmallSpaces x = Edges.fresh(3, 2);
        x.add(0, 4);
        DUE.is("put a line", x.put(0), 1);
        DUE.is("put it again", x.put(0), 2);
        DUE.is("put 0", x.put(1), 3);
        DUE.is("put 0 again", x.put(1), 4);
        Edges.fill(x, 2);
        DUE.is("put all", x.put(2), 5);
    }

    private static void whatWasPutStays() {
        SmallSpaces x = Edges.fresh(3, 2);
        x.add(0, 4);
        x.put(0);
        x.add(0, 1);
        x.take(1, 0);
        EDGES.rows("what was put, its slot then more", x, 1, 4);
        x.clear(0);
        x.take(1, 0);
        EDGES.rows("what was put, its slot then cleared", x, 1, 4);
    }

    private static void emptyOfNoneOfOneOf40() {
        for (int size : new int[] {0, 1, 2, 39, 40}) {
            SmallSpaces x = withHeap(2, 6, size);
            DUE.is("empty() of " + size, x.empty(), size);
            DUE.is("empty() of " + size + ": told(3)", x.told(3), 0);
            DUE.is("empty() of " + size + ", again", x.empty(), 0);
            DUE.is("empty() of " + size + ": take(0, 0)", x.take(0, 0), Edges.UNKNOWN);
            DUE.is("empty() of " + size + ": least()", x.least(), Edges.NONE);
            DUE.is("empty() of " + size + ": bare()", x.bare(), 64);
            DUE.is("empty() of " + size + ": digest()", x.digest(), Edges.fresh(2, 6).digest());
        }
    }

    private static void emptyChangesNothingElse() {
        SmallSpaces x = Edges.fresh(3, 2);
        x.add(3, 5);
        x.image(0, 1);
        long before = x.digest();
        x.put(3);
        x.empty();
        DUE.is("empty(): digest()", x.digest(), before);
    }

    private static void takeTakesSlots0To11() {
        EDGES.eachSlot("take(s, 0)", 3, 2, 2, (x, s) -> {
            x.greedy(2, 1);
            return x.take(s, 0);
        });
        EDGES.noOtherSlot("take(s, 1)", (x, s) -> x.take(s, 1));
        EDGES.onlySlots("take(s, 0)", (x, s) -> x.take(s, 0));
        EDGES.onlySlots("take(s, 99)", (x, s) -> x.take(s, 99));
    }

    private static void takeTakesWhatIsInTheHeap() {
        for (int size = 1; size <= 3; size++) {
            int count = size;
            SmallSpaces x = withHeap(3, 2, size);
            for (int i = 0; i < size; i++) {
                DUE.is("take(1, " + i + ") of " + size, x.take(1, i), 1);
                DUE.is("take(1, " + i + ") of " + size + ": number", x.number(1), i);
            }
            for (int i : new int[] {-1, size, size + 1, 39, 40, Edges.LOW, Edges.HIGH}) {
                EDGES.refused(withHeap(3, 2, count), withHeap(3, 2, count), "take(1, " + i + ") of " + size,
                    Edges.UNKNOWN, y -> y.take(1, i));
            }
        }
    }

    private static void takeOfTheFullHeap() {
        SmallSpaces x = withHeap(2, 6, 40);
        for (int i : new int[] {0, 1, 38, 39}) {
            DUE.is("take(1, " + i + ") of 40", x.take(1, i), 1);
            DUE.is("take(1, " + i + ") of 40: number", x.number(1), i);
        }
        for (int i : Edges.beyond(40)) {
            EDGES.refused(withHeap(2, 6, 40), withHeap(2, 6, 40), "take(1, " + i + ") of 40", Edges.UNKNOWN,
                y -> y.take(1, i));
        }
    }

    private static void takeOfNone() {
        SmallSpaces emptied = withHeap(2, 6, 40);
        emptied.empty();
        for (int i : new int[] {-1, 0, 1, 39, 40}) {
            DUE.is("take(0, " + i + ") of none", Edges.fresh(2, 6).take(0, i), Edges.UNKNOWN);
            DUE.is("take(0, " + i + ") of an emptied heap", emptied.take(0, i), Edges.UNKNOWN);
        }
    }

    private static void takeLeavesTheHeap() {
        SmallSpaces x = withHeap(3, 3, 3);
        x.take(0, 1);
        x.add(0, 1);
        x.add(0, 9);
        DUE.is("take: told(3)", x.told(3), 3);
        x.take(1, 1);
        DUE.is("take, again: number", x.number(1), 1);
    }

    private static void leastOfLessThanTwoIsNone() {
        DUE.is("least() of none", withHeap(2, 6, 0).least(), Edges.NONE);
        DUE.is("least() of one", withHeap(2, 6, 1).least(), Edges.NONE);
        DUE.is("least() of two", withHeap(2, 6, 2).least(), 2);
        SmallSpaces x = withHeap(2, 6, 2);
        x.empty();
        DUE.is("least() of an emptied heap", x.least(), Edges.NONE);
        x.put(0);
        DUE.is("least() of one behind empty", x.least(), Edges.NONE);
    }

    private static void leastFindsEachPair() {
        int[][] pairs = {{0, 1}, {0, 39}, {1, 2}, {19, 20}, {0, 38}, {1, 39}, {37, 38}, {38, 39}};
        for (int[] same : pairs) {
            SmallSpaces x = Edges.fresh(2, 6);
            for (int i = 0; i < 40; i++) {
                x.numbered(0, 1, i == same[1] ? same[0] : i);
                x.put(0);
            }
            DUE.is("least() with " + same[0] + " and " + same[1] + " the same", x.least(), 0);
        }
        DUE.is("least() of 40 lines", withHeap(2, 6, 40).least(), 2);
    }

    private static void leastFrom0ToN() {
        Edges.eachField((q, n) -> {
            SmallSpaces x = Edges.fresh(q, n);
            Edges.fill(x, 1);
            x.put(0);
            x.put(1);
            DUE.is("least() of 0 and all", x.least(), n);
            x.put(0);
            DUE.is("least() of 0 twice and all", x.least(), 0);
        });
    }

    private static void bareOfNoneIsAll() {
        Edges.eachField((q, n) -> DUE.is("bare() of none", Edges.fresh(q, n).bare(), Edges.power(q, n)));
    }

    private static void bareOf0AloneAndOfAll() {
        Edges.eachField((q, n) -> {
            SmallSpaces x = Edges.fresh(q, n);
            int vectors = Edges.power(q, n);
            x.put(0);
            DUE.is("bare() of 0 alone", x.bare(), vectors - 1);
            x.put(0);
            DUE.is("bare() of 0 twice", x.bare(), vectors - 1);
            Edges.fill(x, 1);
            x.put(1);
            DUE.is("bare() of all", x.bare(), 0);
            x.empty();
            DUE.is("bare() of an emptied heap", x.bare(), vectors);
            x.add(2, 1);
            x.put(2);
            DUE.is("bare() of a line", x.bare(), vectors - q);
        });
    }

    private static void bareOfTheFullHeap() {
        for (int size : new int[] {1, 2, 39, 40}) {
            DUE.is("bare() of " + size + " lines over 2", withHeap(2, 6, size).bare(), 63 - size);
            DUE.is("bare() of " + size + " lines over 3", withHeap(3, 4, size).bare(), 80 - 2 * size);
        }
    }

    private static void greedyTakesKFrom0ToN() {
        Edges.eachField((q, n) -> {
            SmallSpaces x = Edges.fresh(q, n);
            DUE.is("greedy(0, 1)", x.greedy(0, 1), 1);
            DUE.is("greedy(0, 1): take", x.take(1, 0), 0);
            DUE.is("greedy(n, 1)", x.greedy(n, 1), 1);
            DUE.is("greedy(n, 1): take", x.take(1, 0), n);
            for (int k : Edges.beyond(n + 1)) {
                EDGES.refused(q, n, "greedy(" + k + ", 1)", Edges.OUTSIDE, y -> y.greedy(k, 1));
            }
        });
    }

    private static void greedyTakesDFrom1To12() {
        Edges.eachField((q, n) -> {
            SmallSpaces x = Edges.fresh(q, n);
            DUE.is("greedy(1, 1)", x.greedy(1, 1), Math.min(40, x.many(1)));
            DUE.is("greedy(1, 12)", x.greedy(1, 12), 1);
            DUE.is("greedy(1, 11)", x.greedy(1, 11), 1);
            for (int d : new int[] {0, -1, 13, 14, Edges.LOW, Edges.HIGH}) {
                EDGES.refused(q, n, "greedy(1, " + d + ")", Edges.OUTSIDE, y -> y.greedy(1, d));
                EDGES.refused(q, n, "greedy(-1, " + d + ")", Edges.OUTSIDE, y -> y.greedy(-1, d));
            }
        });
    }

    private static void greedyTakesWhatIsJustDApart() {
        SmallSpaces x = Edges.fresh(2, 4);
        DUE.is("greedy(1, 2)", x.greedy(1, 2), 15);
        DUE.is("greedy(1, 3)", x.greedy(1, 3), 1);
        DUE.is("greedy(2, 2)", x.greedy(2, 2), 35);
        DUE.is("greedy(2, 3)", x.greedy(2, 3), 5);
        DUE.is("greedy(2, 4)", x.greedy(2, 4), 5);
        DUE.is("greedy(2, 4): least()", x.least(), 4);
        DUE.is("greedy(2, 5)", x.greedy(2, 5), 1);
        SmallSpaces y = Edges.fresh(2, 6);
        DUE.is("greedy(3, 6)", y.greedy(3, 6), 9);
        DUE.is("greedy(3, 6): least()", y.least(), 6);
        DUE.is("greedy(3, 7)", y.greedy(3, 7), 1);
    }

    private static void greedyBringsAllOr40() {
        int[][] due = {{2, 5, 1, 31}, {2, 6, 1, 40}, {3, 3, 1, 13}, {3, 4, 1, 40}, {3, 4, 3, 40}, {3, 5, 1, 40},
            {5, 3, 1, 31}, {5, 4, 1, 40}, {2, 4, 2, 35}, {2, 5, 2, 40}};
        for (int[] row : due) {
            SmallSpaces x = Edges.fresh(row[0], row[1]);
            String what = "greedy(" + row[2] + ", 1) over " + row[0] + " of " + row[1];
            DUE.is(what, x.greedy(row[2], 1), row[3]);
            DUE.is(what + ": told(3)", x.told(3), row[3]);
            DUE.is(what + ": empty()", x.empty(), row[3]);
        }
    }

    private static void greedyGoesByNumbers() {
        for (int[] pair : Edges.WIDEST) {
            SmallSpaces x = Edges.fresh(pair[0], pair[1]);
            x.greedy(2, 1);
            for (int i = 0; i < 40; i++) {
                x.take(0, i);
                DUE.is("greedy(2, 1): number of " + i, x.number(0), i);
            }
        }
        // The first that has nothing together with the first is, of the others, the least by number.
        SmallSpaces y = Edges.fresh(3, 4);
        y.greedy(2, 4);
        int[] numbers = new int[] {0, 0};
        for (int r = 1; numbers[1] == 0; r++) {
            y.numbered(0, 2, 0);
            y.numbered(1, 2, r);
            numbers[1] = y.apart(0, 1) == 4 ? r : 0;
        }
        for (int i = 0; i < 2; i++) {
            y.take(2, i);
            DUE.is("greedy(2, 4): number of " + i, y.number(2), numbers[i]);
        }
    }

    private static void greedyMakesTheHeapAnew() {
        SmallSpaces x = withHeap(2, 6, 40);
        DUE.is("greedy(6, 1) over a full heap", x.greedy(6, 1), 1);
        DUE.is("greedy(6, 1) over a full heap: told(3)", x.told(3), 1);
        DUE.is("greedy(6, 1) over a full heap: take(0, 0)", x.take(0, 0), 6);
        DUE.is("greedy(6, 1) over a full heap: take(0, 1)", x.take(0, 1), Edges.UNKNOWN);
        // What was in the heap keeps nothing out.
        DUE.is("greedy(6, 1) over itself", x.greedy(6, 1), 1);
    }

    private static SmallSpaces greedyDone(int times) {
        SmallSpaces x = Edges.fresh(3, 3);
        for (int i = 0; i < times; i++) {
            x.greedy(1, 1);
        }
        x.put(0);
        return x;
    }

    private static void greedyMayBeDone10Times() {
        SmallSpaces x = Edges.fresh(3, 3);
        for (int i = 1; i <= 10; i++) {
            DUE.is("greedy, time " + i, x.greedy(1, 1), 13);
            DUE.is("greedy, time " + i + ": told(4)", x.told(4), i);
        }
        DUE.is("greedy, time 11", x.greedy(1, 1), Edges.STATE);
        DUE.is("greedy, time 12", x.greedy(2, 2), Edges.STATE);
        DUE.is("greedy, time 12: told(4)", x.told(4), 10);
        EDGES.refused(greedyDone(10), greedyDone(10), "greedy(0, 1), time 11", Edges.STATE, y -> y.greedy(0, 1));
        EDGES.refused(greedyDone(10), greedyDone(10), "greedy(3, 12), time 11", Edges.STATE, y -> y.greedy(3, 12));
    }

    private static void greedyTellsOutsideAheadOfState() {
        int[][] wrong = {{-1, 1}, {4, 1}, {1, 0}, {1, 13}, {Edges.LOW, Edges.LOW}, {Edges.HIGH, Edges.HIGH}};
        for (int[] pair : wrong) {
            String what = "greedy(" + pair[0] + ", " + pair[1] + ") behind 10";
            EDGES.refused(greedyDone(10), greedyDone(10), what, Edges.OUTSIDE, x -> x.greedy(pair[0], pair[1]));
        }
    }

    private static void greedyRefusedIsNotCounted() {
        SmallSpaces x = greedyDone(9);
        for (int i = 0; i < 5; i++) {
            DUE.is("greedy(4, 1) behind 9", x.greedy(4, 1), Edges.OUTSIDE);
            DUE.is("greedy(1, 0) behind 9", x.greedy(1, 0), Edges.OUTSIDE);
        }
        DUE.is("greedy, time 10", x.greedy(1, 1), 13);
        DUE.is("greedy, time 11", x.greedy(1, 1), Edges.STATE);
    }

    private static void greedyIsCountedOverFields() {
        SmallSpaces x = greedyDone(9);
        x.field(2, 2);
        DUE.is("greedy behind field, time 10", x.greedy(1, 1), 3);
        x.field(2, 3);
        DUE.is("greedy behind field, time 11", x.greedy(1, 1), Edges.STATE);
        DUE.is("greedy behind field, time 11: told(3)", x.told(3), 0);
        DUE.is("greedy of another object", Edges.fresh(2, 3).greedy(1, 1), 7);
    }
}
