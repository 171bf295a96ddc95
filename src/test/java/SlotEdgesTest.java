/** The boundary cases of promises 5 to 14, each sentence by itself: what is done with slots. */
public final class SlotEdgesTest {
    private static final Due DUE = new Due("SlotEdgesTest");
    private static final Edges EDGES = new Edges(DUE);

    public static void main(String[] args) {
        addTakesSlots0To11();
        addOf0ChangesNothing();
        addOfWhatIsHeldChangesNothing();
        addToAllStaysAll();
        addTakesVectorsTillTheLast();
        addRefusesWhatIsNoVector();
        clearTakesSlots0To11();
        clearOf0AloneAndOfAll();
        dimTakesSlots0To11();
        dimFrom0ToN();
        rowTakesSlots0To11();
        rowIsNoneBeyondTheTable();
        rowTellsUnknownAheadOfNone();
        joinTakesSlots0To11();
        joinWith0AndWithAllAndWithItself();
        joinIntoItsOwnSources();
        meetTakesSlots0To11();
        meetWith0AndWithAllAndWithItself();
        meetIntoItsOwnSources();
        dualTakesSlots0To11();
        dualOf0IsAllAndBack();
        dualOfWhatLiesInItsDual();
        hasTakesSlots0To11();
        hasRefusesWhatIsNoVector();
        hasOf0AndOfTheLastVector();
        withinTakesSlots0To11();
        withinOf0AndOfAll();
        apartTakesSlots0To11();
        apartFrom0ToN();
        tableHasOneFormAlone();
        DUE.end();
    }

    private static void addTakesSlots0To11() {
        EDGES.eachSlot("add(s, 1)", 2, 1, 1, (x, s) -> x.add(s, 1));
        EDGES.noOtherSlot("add(s, 26)", (x, s) -> x.add(s, 26));
        EDGES.onlySlots("add(s, 1)", (x, s) -> x.add(s, 1));
        EDGES.onlySlots("add(s, -1)", (x, s) -> x.add(s, -1));
    }

    private static void addOf0ChangesNothing() {
        Edges.eachField((q, n) -> {
            SmallSpaces x = Edges.busy(q, n);
            DUE.is("add(11, 0)", x.add(11, 0), 0);
            DUE.is("add(0, 0)", x.add(0, 0), 1);
            DUE.is("add(10, 0)", x.add(10, 0), n);
            DUE.is("add of 0: digest()", x.digest(), Edges.busy(q, n).digest());
        });
    }

    private static void addOfWhatIsHeldChangesNothing() {
        Edges.eachField((q, n) -> {
            SmallSpaces x = Edges.busy(q, n);
            for (int k = 1; k < q; k++) {
                DUE.is("add(0, " + k + ")", x.add(0, k), 1);
            }
            DUE.is("add of what is held: digest()", x.digest(), Edges.busy(q, n).digest());
        });
    }

    private static void addToAllStaysAll() {
        Edges.eachField((q, n) -> {
            SmallSpaces x = Edges.fresh(q, n);
            for (int i = n - 1; i >= 0; i--) {
                DUE.is("add, towards all", x.add(0, Edges.unit(q, n, i)), n - i);
            }
            long all = x.digest();
            DUE.is("add to all", x.add(0, Edges.power(q, n) - 1), n);
            DUE.is("add to all: digest()", x.digest(), all);
        });
    }

    private static void addTakesVectorsTillTheLast() {
        Edges.eachField((q, n) -> {
            SmallSpaces x = Edges.fresh(q, n);
            int last = Edges.power(q, n) - 1;
            DUE.is("add(0, last)", x.add(0, last), 1);
            EDGES.rows("add(0, last)", x, 0, last / (q - 1));
            DUE.is("add(1, q less 1)", x.add(1, q - 1), 1);
            EDGES.rows("add(1, q less 1)", x, 1, 1);
        });
    }

    private static void addRefusesWhatIsNoVector() {
        Edges.eachField((q, n) -> {
            for (int v : Edges.beyond(Edges.power(q, n))) {
                EDGES.refused(q, n, "add(0, " + v + ")", Edges.UNKNOWN, x -> x.add(0, v));
                EDGES.refused(q, n, "add(11, " + v + ")", Edges.UNKNOWN, x -> x.add(11, v));
            }
        });
    }

    private static void clearTakesSlots0To11() {
        EDGES.eachSlot("clear(s)", 3, 2, 1, (x, s) -> {
            x.add(s, 5);
            return x.clear(s);
        });
        EDGES.noOtherSlot("clear(s)", (x, s) -> x.clear(s));
        EDGES.onlySlots("clear(s)", (x, s) -> x.clear(s));
    }

    private static void clearOf0AloneAndOfAll() {
        Edges.eachField((q, n) -> {
            SmallSpaces x = Edges.fresh(q, n);
            DUE.is("clear of 0 alone", x.clear(4), 0);
            Edges.fill(x, 4);
            DUE.is("clear of all", x.clear(4), n);
            EDGES.rows("clear of all", x, 4);
            DUE.is("clear of all: has the last", x.has(4, Edges.power(q, n) - 1), 0);
            DUE.is("clear of all, again", x.clear(4), 0);
        });
    }

    private static void dimTakesSlots0To11() {
        EDGES.eachSlot("dim(s)", 5, 2, 0, (x, s) -> x.dim(s));
        EDGES.eachSlot("dim(s)", 5, 2, 1, (x, s) -> {
            x.add(s, 7);
            return x.dim(s);
        });
        EDGES.onlySlots("dim(s)", (x, s) -> x.dim(s));
    }

    private static void dimFrom0ToN() {
        Edges.eachField((q, n) -> {
            SmallSpaces x = Edges.fresh(q, n);
            for (int i = 0; i < n; i++) {
                DUE.is("dim", x.dim(7), i);
                x.add(7, Edges.unit(q, n, i));
            }
            DUE.is("dim of all", x.dim(7), n);
        });
    }

    private static void rowTakesSlots0To11() {
        EDGES.eachSlot("row(s, 0)", 3, 2, 3, (x, s) -> {
            x.add(s, 6);
            return x.row(s, 0);
        });
        EDGES.onlySlots("row(s, 0)", (x, s) -> x.row(s, 0));
    }

    private static void rowIsNoneBeyondTheTable() {
        Edges.eachField((q, n) -> {
            SmallSpaces x = Edges.fresh(q, n);
            for (int k = 0; k <= n; k++) {
                for (int i = 0; i < k; i++) {
                    DUE.is("row(0, " + i + ") of dim " + k, x.row(0, i), Edges.unit(q, n, i));
                }
                for (int i : new int[] {-1, k, n, n + 1, 6, Edges.LOW, Edges.HIGH}) {
                    int due = i >= 0 && i < k ? Edges.unit(q, n, i) : Edges.NONE;
                    DUE.is("row(0, " + i + ") of dim " + k, x.row(0, i), due);
                }
                if (k < n) {
                    x.add(0, Edges.unit(q, n, k));
                }
            }
        });
    }

    private static void rowTellsUnknownAheadOfNone() {
        for (int i : new int[] {-1, 3, 9, Edges.LOW, Edges.HIGH}) {
            EDGES.onlySlots("row(s, " + i + ")", (x, s) -> x.row(s, i));
        }
    }

    private static void joinTakesSlots0To11() {
        EDGES.eachSlot("join(s, s, s)", 3, 2, 0, (x, s) -> x.join(s, s, s));
        EDGES.eachSlot("join(s, 5, 6)", 3, 2, 1, (x, s) -> x.add(s, 1) == 1 ? x.join(s, 5, 6) : 0);
        EDGES.eachSlot("join(5, s, 6)", 3, 2, 1, (x, s) -> x.add(s, 1) == 1 ? x.join(5, s, 6) : 0);
        EDGES.noOtherSlot("join(0, 1, t)", (x, t) -> x.join(0, 1, t));
        EDGES.onlySlots("join(a, 0, 1)", (x, a) -> x.join(a, 0, 1));
        EDGES.onlySlots("join(0, b, 1)", (x, b) -> x.join(0, b, 1));
        EDGES.onlySlots("join(0, 1, t)", (x, t) -> x.join(0, 1, t));
        EDGES.onlySlots("join(a, a, a)", (x, a) -> x.join(a, a, a));
    }

    private static void joinWith0AndWithAllAndWithItself() {
        Edges.eachField((q, n) -> {
            SmallSpaces x = Edges.fresh(q, n);
            x.add(0, 1);
            Edges.fill(x, 2);
            DUE.is("join of 0 and 0", x.join(1, 1, 3), 0);
            DUE.is("join with 0", x.join(0, 1, 3), 1);
            EDGES.rows("join with 0", x, 3, 1);
            DUE.is("join of 0 with it", x.join(1, 0, 3), 1);
            DUE.is("join with itself", x.join(0, 0, 3), 1);
            EDGES.rows("join with itself", x, 3, 1);
            DUE.is("join with all", x.join(0, 2, 3), n);
            DUE.is("join of all with it", x.join(2, 0, 3), n);
            DUE.is("join of all and all", x.join(2, 2, 3), n);
        });
    }

    private static void joinIntoItsOwnSources() {
        SmallSpaces x = Edges.fresh(5, 3);
        Edges.span(x, 0, 25 + 4);
        Edges.span(x, 1, 5 + 3);
        DUE.is("join(0, 1, 0)", x.join(0, 1, 0), 2);
        EDGES.rows("join into its first", x, 0, 29, 8);
        EDGES.rows("join into its first: the second", x, 1, 8);
        Edges.span(x, 0, 29);
        DUE.is("join(0, 1, 1)", x.join(0, 1, 1), 2);
        EDGES.rows("join into its second", x, 1, 29, 8);
        EDGES.rows("join into its second: the first", x, 0, 29);
        DUE.is("join(1, 1, 1)", x.join(1, 1, 1), 2);
        EDGES.rows("join into both", x, 1, 29, 8);
    }

    private static void meetTakesSlots0To11() {
        EDGES.eachSlot("meet(s, s, s)", 3, 2, 1, (x, s) -> x.add(s, 1) == 1 ? x.meet(s, s, s) : 0);
        EDGES.noOtherSlot("meet(2, 10, t)", (x, t) -> x.meet(2, 10, t));
        EDGES.onlySlots("meet(a, 0, 1)", (x, a) -> x.meet(a, 0, 1));
        EDGES.onlySlots("meet(0, b, 1)", (x, b) -> x.meet(0, b, 1));
        EDGES.onlySlots("meet(2, 10, t)", (x, t) -> x.meet(2, 10, t));
        EDGES.onlySlots("meet(a, a, a)", (x, a) -> x.meet(a, a, a));
    }

    private static void meetWith0AndWithAllAndWithItself() {
        Edges.eachField((q, n) -> {
            SmallSpaces x = Edges.fresh(q, n);
            x.add(0, 1);
            Edges.fill(x, 2);
            DUE.is("meet of 0 and 0", x.meet(1, 1, 3), 0);
            DUE.is("meet with 0", x.meet(0, 1, 3), 0);
            DUE.is("meet of 0 with all", x.meet(1, 2, 3), 0);
            DUE.is("meet with itself", x.meet(0, 0, 3), 1);
            EDGES.rows("meet with itself", x, 3, 1);
            DUE.is("meet with all", x.meet(0, 2, 3), 1);
            EDGES.rows("meet with all", x, 3, 1);
            DUE.is("meet of all with it", x.meet(2, 0, 3), 1);
            DUE.is("meet of all and all", x.meet(2, 2, 3), n);
            Edges.span(x, 4, Edges.unit(q, n, 0));
            DUE.is("meet of two lines", x.meet(0, 4, 3), n == 1 ? 1 : 0);
        });
    }

    private static void meetIntoItsOwnSources() {
        SmallSpaces x = Edges.fresh(3, 3);
        Edges.span(x, 0, 9, 3);
        Edges.span(x, 1, 9 + 3, 1);
        DUE.is("meet(0, 1, 0)", x.meet(0, 1, 0), 1);
        EDGES.rows("meet into its first", x, 0, 12);
        EDGES.rows("meet into its first: the second", x, 1, 12, 1);
        Edges.span(x, 0, 9, 3);
        DUE.is("meet(0, 1, 1)", x.meet(0, 1, 1), 1);
        EDGES.rows("meet into its second", x, 1, 12);
        EDGES.rows("meet into its second: the first", x, 0, 9, 3);
        DUE.is("meet(0, 0, 0)", x.meet(0, 0, 0), 2);
        EDGES.rows("meet into both", x, 0, 9, 3);
    }

    private static void dualTakesSlots0To11() {
        EDGES.eachSlot("dual(s, s)", 3, 2, 2, (x, s) -> x.dual(s, s));
        EDGES.eachSlot("dual(s, 5)", 3, 2, 1, (x, s) -> x.add(s, 1) == 1 ? x.dual(s, 5) : 0);
        EDGES.noOtherSlot("dual(0, t)", (x, t) -> x.dual(0, t));
        EDGES.onlySlots("dual(a, 0)", (x, a) -> x.dual(a, 0));
        EDGES.onlySlots("dual(0, t)", (x, t) -> x.dual(0, t));
        EDGES.onlySlots("dual(a, a)", (x, a) -> x.dual(a, a));
    }

    private static void dualOf0IsAllAndBack() {
        Edges.eachField((q, n) -> {
            SmallSpaces x = Edges.fresh(q, n);
            DUE.is("dual of 0", x.dual(0, 1), n);
            for (int i = 0; i < n; i++) {
                DUE.is("dual of 0: row " + i, x.row(1, i), Edges.unit(q, n, i));
            }
            DUE.is("dual of all", x.dual(1, 2), 0);
            EDGES.rows("dual of all", x, 2);
            DUE.is("dual of 0 into itself", x.dual(0, 0), n);
            DUE.is("dual of all into itself", x.dual(0, 0), 0);
        });
    }

    private static void dualOfWhatLiesInItsDual() {
        SmallSpaces x = Edges.fresh(2, 2);
        x.add(0, 3);
        DUE.is("dual of 11 over 2", x.dual(0, 1), 1);
        EDGES.rows("dual of 11 over 2", x, 1, 3);
        x.field(5, 2);
        x.add(0, 5 + 2);
        DUE.is("dual of 12 over 5", x.dual(0, 0), 1);
        EDGES.rows("dual of 12 over 5", x, 0, 7);
    }

    private static void hasTakesSlots0To11() {
        EDGES.eachSlot("has(s, 0)", 3, 2, 1, (x, s) -> x.has(s, 0));
        EDGES.eachSlot("has(s, 1)", 3, 2, 0, (x, s) -> x.has(s, 1));
        EDGES.onlySlots("has(s, 0)", (x, s) -> x.has(s, 0));
        EDGES.onlySlots("has(s, -1)", (x, s) -> x.has(s, -1));
    }

    private static void hasRefusesWhatIsNoVector() {
        Edges.eachField((q, n) -> {
            for (int v : Edges.beyond(Edges.power(q, n))) {
                EDGES.refused(q, n, "has(10, " + v + ")", Edges.UNKNOWN, x -> x.has(10, v));
                EDGES.refused(q, n, "has(11, " + v + ")", Edges.UNKNOWN, x -> x.has(11, v));
            }
        });
    }

    private static void hasOf0AndOfTheLastVector() {
        Edges.eachField((q, n) -> {
            SmallSpaces x = Edges.fresh(q, n);
            int last = Edges.power(q, n) - 1;
            DUE.is("0 alone has 0", x.has(0, 0), 1);
            DUE.is("0 alone has the last", x.has(0, last), 0);
            Edges.fill(x, 0);
            DUE.is("all has 0", x.has(0, 0), 1);
            DUE.is("all has the last", x.has(0, last), 1);
            x.add(1, 1);
            DUE.is("a line has 0", x.has(1, 0), 1);
            DUE.is("a line has a multiple", x.has(1, q - 1), 1);
            DUE.is("a line has the last", x.has(1, last), n == 1 ? 1 : 0);
        });
    }

    private static void withinTakesSlots0To11() {
        EDGES.eachSlot("within(s, s)", 3, 2, 1, (x, s) -> x.within(s, s));
        EDGES.eachSlot("within(s, 5) of more", 3, 2, 0, (x, s) -> x.add(s, 1) == 1 ? x.within(s, (s + 1) % 12) : 9);
        EDGES.onlySlots("within(a, 0)", (x, a) -> x.within(a, 0));
        EDGES.onlySlots("within(0, b)", (x, b) -> x.within(0, b));
        EDGES.onlySlots("within(a, a)", (x, a) -> x.within(a, a));
    }

    private static void withinOf0AndOfAll() {
        Edges.eachField((q, n) -> {
            SmallSpaces x = Edges.fresh(q, n);
            Edges.fill(x, 2);
            x.add(3, 1);
            DUE.is("0 in 0", x.within(0, 1), 1);
            DUE.is("0 in all", x.within(0, 2), 1);
            DUE.is("all in all", x.within(2, 2), 1);
            DUE.is("all in 0", x.within(2, 0), 0);
            DUE.is("a line in itself", x.within(3, 3), 1);
            DUE.is("a line in all", x.within(3, 2), 1);
            DUE.is("a line in 0", x.within(3, 0), 0);
            DUE.is("all in a line", x.within(2, 3), n == 1 ? 1 : 0);
        });
    }

    private static void apartTakesSlots0To11() {
        EDGES.eachSlot("apart(s, s)", 3, 2, 0, (x, s) -> x.apart(s, s));
        EDGES.eachSlot("apart(s, another)", 3, 2, 1, (x, s) -> x.add(s, 1) == 1 ? x.apart(s, (s + 1) % 12) : 9);
        EDGES.onlySlots("apart(a, 0)", (x, a) -> x.apart(a, 0));
        EDGES.onlySlots("apart(0, b)", (x, b) -> x.apart(0, b));
        EDGES.onlySlots("apart(a, a)", (x, a) -> x.apart(a, a));
    }

    private static void apartFrom0ToN() {
        Edges.eachField((q, n) -> {
            SmallSpaces x = Edges.fresh(q, n);
            Edges.fill(x, 2);
            x.add(3, 1);
            DUE.is("apart of 0 and 0", x.apart(0, 1), 0);
            DUE.is("apart of all and all", x.apart(2, 2), 0);
            DUE.is("apart of 0 and all", x.apart(0, 2), n);
            DUE.is("apart of all and 0", x.apart(2, 0), n);
            DUE.is("apart of a line and all", x.apart(3, 2), n - 1);
            for (int k = 0; k <= n; k++) {
                x.numbered(4, k, 0);
                x.numbered(5, n - k, x.many(n - k) - 1);
                DUE.is("apart of what has nothing together, dims " + k, x.apart(4, 5), n);
            }
        });
    }

    /** All vectors of a space, in any order, come to the one table of it. */
    private static void tableHasOneFormAlone() {
        SmallSpaces x = Edges.fresh(3, 3);
        int[][] ways = {{12, 5}, {5, 12}, {20, 17}, {22, 10, 24}, {7, 0, 24}};
        int[] due = {9 + 1, 3 + 2};
        for (int i = 0; i < ways.length; i++) {
            Edges.span(x, i, ways[i]);
            EDGES.rows("table, way " + i, x, i, due);
        }
    }
}
