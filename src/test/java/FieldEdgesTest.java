/** The boundary cases of promises 1 to 4, each sentence by itself: a new object, field, plus, times. */
public final class FieldEdgesTest {
    private static final Due DUE = new Due("FieldEdgesTest");
    private static final Edges EDGES = new Edges(DUE);

    public static void main(String[] args) {
        newObjectIsOver2Of1();
        newObjectsSlotsHold0Alone();
        newObjectsHeapIsEmpty();
        newObjectsMapLeavesAll();
        eachObjectHasItsOwnState();
        nIs1To6ForQ2();
        nIs1To5ForQ3();
        nIs1To4ForQ5();
        qIs2Or3Or5();
        fieldAnswersHowManyVectors();
        fieldPutsSlotsBack();
        fieldPutsHeapBack();
        fieldPutsMapBack();
        fieldOfTheSamePutsBackToo();
        fieldKeepsTold4And5();
        vectorsAre0ToQToTheNLess1();
        sumsWrapAtQWithoutCarry();
        plusTakesKFrom0ToQLess1();
        plusRefusesWhatIsNoVector();
        plusTellsUnknownAheadOfOutside();
        productsWrapAtQ();
        timesRefusesWhatIsNoVector();
        placeZeroIsHighest();
        DUE.end();
    }

    private static void newObjectIsOver2Of1() {
        SmallSpaces x = new SmallSpaces();
        DUE.is("new: told(0)", x.told(0), 2);
        DUE.is("new: told(1)", x.told(1), 1);
        DUE.is("new: told(2)", x.told(2), 2);
        DUE.is("new: plus(1, 1, 1)", x.plus(1, 1, 1), 0);
        DUE.is("new: plus(2, 0, 0)", x.plus(2, 0, 0), Edges.UNKNOWN);
        DUE.is("new: plus(0, 0, 2)", x.plus(0, 0, 2), Edges.OUTSIDE);
        DUE.is("new: many(1)", x.many(1), 1);
        DUE.is("new: many(2)", x.many(2), 0);
        DUE.is("new: image(1, 0)", x.image(1, 0), Edges.UNKNOWN);
    }

    private static void newObjectsSlotsHold0Alone() {
        SmallSpaces x = new SmallSpaces();
        for (int s = 0; s <= 11; s++) {
            DUE.is("new: dim(" + s + ")", x.dim(s), 0);
            DUE.is("new: row(" + s + ", 0)", x.row(s, 0), Edges.NONE);
            DUE.is("new: has(" + s + ", 0)", x.has(s, 0), 1);
            DUE.is("new: has(" + s + ", 1)", x.has(s, 1), 0);
        }
    }

    private static void newObjectsHeapIsEmpty() {
        SmallSpaces x = new SmallSpaces();
        DUE.is("new: told(3)", x.told(3), 0);
        DUE.is("new: take(0, 0)", x.take(0, 0), Edges.UNKNOWN);
        DUE.is("new: least()", x.least(), Edges.NONE);
        DUE.is("new: bare()", x.bare(), 2);
        DUE.is("new: empty()", x.empty(), 0);
    }

    private static void newObjectsMapLeavesAll() {
        SmallSpaces x = new SmallSpaces();
        DUE.is("new: mapped(0)", x.mapped(0), 0);
        DUE.is("new: mapped(1)", x.mapped(1), 1);
        DUE.is("new: image(0, 0)", x.image(0, 0), 1);
    }

    private static void eachObjectHasItsOwnState() {
        SmallSpaces used = Edges.busy(5, 4);
        SmallSpaces x = new SmallSpaces();
        DUE.is("new behind another: digest()", x.digest(),
            Edges.fold(2, 1, 0, 0, 0, 0, 0, 0, 0, 0, 0, 0, 0, 0, 1, 0, 0));
        x.field(3, 2);
        x.add(0, 1);
        DUE.is("another stays as it was", used.digest(), Edges.busy(5, 4).digest());
    }

    private static void nIs1To6ForQ2() {
        nIs1To(6, 2);
    }

    private static void nIs1To5ForQ3() {
        nIs1To(5, 3);
    }

    private static void nIs1To4ForQ5() {
        nIs1To(4, 5);
    }

    private static void nIs1To(int most, int q) {
        for (int n = 1; n <= most; n++) {
            DUE.is("field(" + q + ", " + n + ")", new SmallSpaces().field(q, n), Edges.power(q, n));
        }
        for (int n : new int[] {0, -1, most + 1, most + 2, Edges.LOW, Edges.HIGH}) {
            EDGES.refused(q, most, "field(" + q + ", " + n + ")", Edges.OUTSIDE, x -> x.field(q, n));
            EDGES.refused(3, 2, "field(" + q + ", " + n + ")", Edges.OUTSIDE, x -> x.field(q, n));
        }
    }

    private static void qIs2Or3Or5() {
        for (int q : new int[] {1, 4, 6, 0, -1, 7, -2, -3, -5, 8, 9, 25, Edges.LOW, Edges.HIGH}) {
            for (int n : new int[] {1, 2, 4, 0, 7, -1}) {
                EDGES.refused(5, 2, "field(" + q + ", " + n + ")", Edges.OUTSIDE, x -> x.field(q, n));
            }
        }
    }

    private static void fieldAnswersHowManyVectors() {
        int[][] due = {{2, 4, 8, 16, 32, 64}, {3, 9, 27, 81, 243}, {5, 25, 125, 625}};
        for (int i = 0; i < due.length; i++) {
            int q = Edges.WIDEST[i][0];
            SmallSpaces x = new SmallSpaces();
            for (int n = 1; n <= due[i].length; n++) {
                DUE.is("field(" + q + ", " + n + ")", x.field(q, n), due[i][n - 1]);
                DUE.is("field: told(0)", x.told(0), q);
                DUE.is("field: told(1)", x.told(1), n);
                DUE.is("field: told(2)", x.told(2), due[i][n - 1]);
            }
        }
    }

    private static void fieldPutsSlotsBack() {
        SmallSpaces x = Edges.fresh(2, 6);
        for (int s = 0; s <= 11; s++) {
            Edges.fill(x, s);
        }
        x.field(2, 3);
        for (int s = 0; s <= 11; s++) {
            EDGES.rows("field, to less: slot " + s, x, s);
        }
        x.add(0, 4);
        x.field(2, 6);
        for (int s = 0; s <= 11; s++) {
            EDGES.rows("field, back to more: slot " + s, x, s);
        }
        DUE.is("field, back to more: has(0, 32)", x.has(0, 32), 0);
        x.add(0, 1);
        EDGES.rows("field, then add", x, 0, 1);
    }

    private static void fieldPutsHeapBack() {
        SmallSpaces x = Edges.fresh(2, 6);
        for (int i = 0; i < 40; i++) {
            x.put(0);
        }
        x.field(3, 5);
        DUE.is("field: told(3)", x.told(3), 0);
        DUE.is("field: take(0, 0)", x.take(0, 0), Edges.UNKNOWN);
        DUE.is("field: least()", x.least(), Edges.NONE);
        DUE.is("field: bare()", x.bare(), 243);
        DUE.is("field: put(0)", x.put(0), 1);
    }

    private static void fieldPutsMapBack() {
        SmallSpaces x = Edges.fresh(2, 6);
        for (int i = 0; i < 6; i++) {
            x.image(i, 63);
        }
        Edges.eachField((q, n) -> {
            x.field(q, n);
            for (int i = 0; i < n; i++) {
                int had = x.image(i, 1);
                DUE.is("field(" + q + ", " + n + "): image(" + i + ")", had, Edges.unit(q, n, i));
            }
        });
        x.field(5, 3);
        DUE.is("field: mapped(124)", x.mapped(124), 124);
    }

    private static void fieldOfTheSamePutsBackToo() {
        Edges.eachField((q, n) -> {
            SmallSpaces x = Edges.busy(q, n);
            SmallSpaces twin = Edges.fresh(q, n);
            twin.greedy(0, 1);
            twin.empty();
            twin.round(0);
            twin.round(0);
            DUE.is("field(" + q + ", " + n + ") again", x.field(q, n), Edges.power(q, n));
            DUE.is("field(" + q + ", " + n + ") again: digest()", x.digest(), twin.digest());
        });
    }

    private static void fieldKeepsTold4And5() {
        SmallSpaces x = new SmallSpaces();
        DUE.is("field: told(4) at first", x.told(4), 0);
        x.field(2, 2);
        DUE.is("field: told(4) of none done", x.told(4), 0);
        DUE.is("field: told(5) of none done", x.told(5), 0);
        for (int i = 0; i < 3; i++) {
            x.greedy(1, 1);
        }
        for (int i = 0; i < 5; i++) {
            x.round(0);
        }
        x.field(5, 4);
        DUE.is("field keeps told(4)", x.told(4), 3);
        DUE.is("field keeps told(5)", x.told(5), 5);
        x.field(7, 7);
        DUE.is("field refused keeps told(4)", x.told(4), 3);
        DUE.is("field refused keeps told(5)", x.told(5), 5);
    }

    private static void vectorsAre0ToQToTheNLess1() {
        Edges.eachField((q, n) -> {
            SmallSpaces x = Edges.fresh(q, n);
            int last = Edges.power(q, n) - 1;
            DUE.is("plus(last, 0, 0) over " + q + " of " + n, x.plus(last, 0, 0), last);
            DUE.is("plus(0, last, 1) over " + q + " of " + n, x.plus(0, last, 1), last);
            DUE.is("plus(0, 0, 0) over " + q + " of " + n, x.plus(0, 0, 0), 0);
            DUE.is("times(last, last) over " + q + " of " + n, x.times(last, last), n % q);
            DUE.is("times(0, last) over " + q + " of " + n, x.times(0, last), 0);
        });
    }

    private static void sumsWrapAtQWithoutCarry() {
        Edges.eachField((q, n) -> {
            SmallSpaces x = Edges.fresh(q, n);
            int last = Edges.power(q, n) - 1;
            int ones = last / (q - 1);
            DUE.is("plus(last, ones, 1) over " + q + " of " + n, x.plus(last, ones, 1), 0);
            DUE.is("plus(last, last, q less 1) over " + q + " of " + n, x.plus(last, last, q - 1), 0);
            DUE.is("plus(ones, ones, q less 1) over " + q + " of " + n, x.plus(ones, ones, q - 1), 0);
            for (int i = 0; i < n; i++) {
                int unit = Edges.unit(q, n, i);
                DUE.is("plus wraps at place " + i, x.plus((q - 1) * unit, unit, 1), 0);
                DUE.is("plus at place " + i, x.plus(0, unit, q - 1), (q - 1) * unit);
            }
        });
    }

    private static void plusTakesKFrom0ToQLess1() {
        Edges.eachField((q, n) -> {
            SmallSpaces x = Edges.fresh(q, n);
            for (int k = 0; k < q; k++) {
                DUE.is("plus(0, 1, " + k + ")", x.plus(0, 1, k), k);
            }
            for (int k : Edges.beyond(q)) {
                EDGES.refused(q, n, "plus(0, 1, " + k + ")", Edges.OUTSIDE, y -> y.plus(0, 1, k));
            }
        });
    }

    private static void plusRefusesWhatIsNoVector() {
        Edges.eachField((q, n) -> {
            for (int v : Edges.beyond(Edges.power(q, n))) {
                EDGES.refused(q, n, "plus(" + v + ", 0, 0)", Edges.UNKNOWN, x -> x.plus(v, 0, 0));
                EDGES.refused(q, n, "plus(0, " + v + ", 0)", Edges.UNKNOWN, x -> x.plus(0, v, 0));
                EDGES.refused(q, n, "plus(" + v + ", " + v + ", 1)", Edges.UNKNOWN, x -> x.plus(v, v, 1));
            }
        });
    }

    private static void plusTellsUnknownAheadOfOutside() {
        for (int k : Edges.beyond(3)) {
            EDGES.refused(3, 2, "plus(9, 0, " + k + ")", Edges.UNKNOWN, x -> x.plus(9, 0, k));
            EDGES.refused(3, 2, "plus(0, 9, " + k + ")", Edges.UNKNOWN, x -> x.plus(0, 9, k));
            EDGES.refused(3, 2, "plus(-1, -1, " + k + ")", Edges.UNKNOWN, x -> x.plus(-1, -1, k));
        }
    }

    private static void productsWrapAtQ() {
        Edges.eachField((q, n) -> {
            SmallSpaces x = Edges.fresh(q, n);
            int last = Edges.power(q, n) - 1;
            int ones = last / (q - 1);
            DUE.is("times(q less 1, q less 1)", x.times(q - 1, q - 1), 1);
            DUE.is("times(q less 1, 1)", x.times(q - 1, 1), q - 1);
            DUE.is("times(ones, ones)", x.times(ones, ones), n % q);
            DUE.is("times(last, ones)", x.times(last, ones), n * (q - 1) % q);
        });
    }

    private static void timesRefusesWhatIsNoVector() {
        Edges.eachField((q, n) -> {
            for (int v : Edges.beyond(Edges.power(q, n))) {
                EDGES.refused(q, n, "times(" + v + ", 0)", Edges.UNKNOWN, x -> x.times(v, 0));
                EDGES.refused(q, n, "times(0, " + v + ")", Edges.UNKNOWN, x -> x.times(0, v));
                EDGES.refused(q, n, "times(" + v + ", " + v + ")", Edges.UNKNOWN, x -> x.times(v, v));
            }
        });
    }

    private static void placeZeroIsHighest() {
        Edges.eachField((q, n) -> {
            SmallSpaces x = Edges.fresh(q, n);
            int highest = Edges.power(q, n - 1);
            DUE.is("place 0 is highest", x.image(0, 0), highest);
            DUE.is("place n less 1 is lowest", x.image(n - 1, 0), n == 1 ? 0 : 1);
        });
    }
}
