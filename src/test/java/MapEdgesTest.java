/** The boundary cases of promises 26 to 30, each sentence by itself: the map, its kernel, and round. */
public final class MapEdgesTest {
    private static final Due DUE = new Due("MapEdgesTest");
    private static final Edges EDGES = new Edges(DUE);

    public static void main(String[] args) {
        imageTakesPlaces0ToNLess1();
        imageTakesVectorsTillTheLast();
        imageRefusesWhatIsNoVector();
        imageChangesItsPlaceAlone();
        mappedTakesVectorsTillTheLast();
        mappedRefusesWhatIsNoVector();
        mappedWrapsAtQ();
        mapTakesSlots0To11();
        mapOf0AndOfAll();
        mapIntoItself();
        mapThatMakes0OfAll();
        kernelTakesSlots0To11();
        kernelOfTheFirstMapIs0();
        kernelOfWhatMakes0IsAll();
        kernelAndWhatIsMadeOfAll();
        kernelBehindOtherCalls();
        roundTakesSlots0To11();
        roundIs1AtLeast();
        roundIsTheLeast();
        roundMayBeLong();
        roundIsNoneForWhatFallsAway();
        roundIsNoneForWhatNeverComesAgain();
        roundLeavesTheSpace();
        roundMayBeDone60Times();
        roundThatIsNoneIsDone();
        roundTellsUnknownAheadOfState();
        roundRefusedIsNotCounted();
        roundIsCountedOverFields();
        DUE.end();
    }

    private static void imageTakesPlaces0ToNLess1() {
        Edges.eachField((q, n) -> {
            SmallSpaces x = Edges.fresh(q, n);
            for (int i = 0; i < n; i++) {
                DUE.is("image(" + i + ", 0)", x.image(i, 0), Edges.unit(q, n, i));
                DUE.is("image(" + i + ", 1)", x.image(i, 1), 0);
            }
            for (int i : Edges.beyond(n)) {
                EDGES.refused(q, n, "image(" + i + ", 0)", Edges.UNKNOWN, y -> y.image(i, 0));
                EDGES.refused(q, n, "image(" + i + ", -1)", Edges.UNKNOWN, y -> y.image(i, -1));
            }
        });
    }

    private static void imageTakesVectorsTillTheLast() {
        Edges.eachField((q, n) -> {
            SmallSpaces x = Edges.fresh(q, n);
            int last = Edges.power(q, n) - 1;
            DUE.is("image(0, last)", x.image(0, last), Edges.unit(q, n, 0));
            DUE.is("image(0, last) again", x.image(0, last), last);
            DUE.is("image(0, 0)", x.image(0, 0), last);
            DUE.is("image(0, 0) again", x.image(0, 0), 0);
        });
    }

    private static void imageRefusesWhatIsNoVector() {
        Edges.eachField((q, n) -> {
            for (int v : Edges.beyond(Edges.power(q, n))) {
                EDGES.refused(q, n, "image(0, " + v + ")", Edges.UNKNOWN, x -> x.image(0, v));
                EDGES.refused(q, n, "image(n less 1, " + v + ")", Edges.UNKNOWN, x -> x.image(n - 1, v));
            }
        });
    }

    private static void imageChangesItsPlaceAlone() {
        Edges.eachField((q, n) -> {
            for (int i = 0; i < n; i++) {
                SmallSpaces x = Edges.fresh(q, n);
                x.image(i, Edges.power(q, n) - 1);
                for (int p = 0; p < n; p++) {
                    int unit = Edges.unit(q, n, p);
                    DUE.is("mapped of place " + p, x.mapped(unit), p == i ? Edges.power(q, n) - 1 : unit);
                }
            }
        });
    }

    private static void mappedTakesVectorsTillTheLast() {
        Edges.eachField((q, n) -> {
            SmallSpaces x = Edges.fresh(q, n);
            int last = Edges.power(q, n) - 1;
            DUE.is("mapped(0)", x.mapped(0), 0);
            DUE.is("mapped(1)", x.mapped(1), 1);
            DUE.is("mapped(last)", x.mapped(last), last);
            DUE.is("mapped(last less 1)", x.mapped(last - 1), last - 1);
            x.image(0, last);
            DUE.is("mapped(0) of another map", x.mapped(0), 0);
        });
    }

    private static void mappedRefusesWhatIsNoVector() {
        Edges.eachField((q, n) -> {
            for (int v : Edges.beyond(Edges.power(q, n))) {
                EDGES.refused(q, n, "mapped(" + v + ")", Edges.UNKNOWN, x -> x.mapped(v));
            }
        });
    }

    private static void mappedWrapsAtQ() {
        Edges.eachField((q, n) -> {
            SmallSpaces x = Edges.fresh(q, n);
            int last = Edges.power(q, n) - 1;
            int ones = last / (q - 1);
            for (int i = 0; i < n; i++) {
                x.image(i, last);
            }
            // Each place of what is made is n times (q less 1) times 1, or n times its square.
            DUE.is("mapped(ones) of last everywhere", x.mapped(ones), n * (q - 1) % q * ones);
            DUE.is("mapped(last) of last everywhere", x.mapped(last), n % q * ones);
        });
    }

    private static void mapTakesSlots0To11() {
        EDGES.eachSlot("map(s, s)", 3, 2, 1, (x, s) -> x.add(s, 1) == 1 ? x.map(s, s) : 9);
        EDGES.eachSlot("map(s, 5)", 3, 2, 1, (x, s) -> x.add(s, 1) == 1 ? x.map(s, 5) : 9);
        EDGES.noOtherSlot("map(10, t)", (x, t) -> x.map(10, t));
        EDGES.onlySlots("map(a, 0)", (x, a) -> x.map(a, 0));
        EDGES.onlySlots("map(10, t)", (x, t) -> x.map(10, t));
        EDGES.onlySlots("map(a, a)", (x, a) -> x.map(a, a));
    }

    private static void mapOf0AndOfAll() {
        Edges.eachField((q, n) -> {
            SmallSpaces x = Edges.fresh(q, n);
            Edges.fill(x, 0);
            DUE.is("map of 0", x.map(1, 2), 0);
            DUE.is("map of all", x.map(0, 2), n);
            x.image(n - 1, 0);
            DUE.is("map of all to less", x.map(0, 2), n - 1);
            DUE.is("map of 0 then", x.map(1, 3), 0);
        });
    }

    private static void mapIntoItself() {
        SmallSpaces x = Edges.fresh(5, 3);
        x.image(0, 5 + 3);
        x.image(1, 1);
        x.image(2, 25);
        Edges.span(x, 0, 25 + 5);
        DUE.is("map(0, 0)", x.map(0, 0), 1);
        // (1, 1, 0) becomes (0, 1, 3) and (0, 0, 1).
        EDGES.rows("map(0, 0)", x, 0, 5 + 4);
    }

    private static void mapThatMakes0OfAll() {
        Edges.eachField((q, n) -> {
            SmallSpaces x = zeroMap(q, n);
            Edges.fill(x, 0);
            DUE.is("map of all to 0", x.map(0, 1), 0);
            EDGES.rows("map of all to 0", x, 1);
            DUE.is("map of all to 0, into itself", x.map(0, 0), 0);
        });
    }

    private static SmallSpaces zeroMap(int q, int n) {
        SmallSpaces x = Edges.fresh(q, n);
        for (int i = 0; i < n; i++) {
            x.image(i, 0);
        }
        return x;
    }

    private static void kernelTakesSlots0To11() {
        EDGES.eachSlot("kernel(t)", 3, 2, 0, (x, t) -> x.kernel(t));
        EDGES.eachSlot("kernel(t) of less", 3, 2, 1, (x, t) -> x.image(0, 0) == 3 ? x.kernel(t) : 9);
        EDGES.noOtherSlot("kernel(t)", (x, t) -> x.kernel(t));
        EDGES.onlySlots("kernel(t)", (x, t) -> x.kernel(t));
    }

    private static void kernelOfTheFirstMapIs0() {
        Edges.eachField((q, n) -> {
            SmallSpaces x = Edges.fresh(q, n);
            Edges.fill(x, 0);
            DUE.is("kernel of the first map", x.kernel(0), 0);
            EDGES.rows("kernel of the first map", x, 0);
        });
    }

    private static void kernelOfWhatMakes0IsAll() {
        Edges.eachField((q, n) -> {
            SmallSpaces x = zeroMap(q, n);
            DUE.is("kernel of what makes 0", x.kernel(3), n);
            DUE.is("kernel of what makes 0: has the last", x.has(3, Edges.power(q, n) - 1), 1);
        });
    }

    private static void kernelAndWhatIsMadeOfAll() {
        Edges.eachField((q, n) -> {
            for (int lost = 0; lost <= n; lost++) {
                SmallSpaces x = Edges.fresh(q, n);
                for (int i = 0; i < lost; i++) {
                    x.image(i, 0);
                }
                Edges.fill(x, 0);
                DUE.is("kernel, " + lost + " places lost", x.kernel(1), lost);
                DUE.is("map of all, " + lost + " places lost", x.map(0, 2), n - lost);
                DUE.is("map of the kernel, " + lost + " places lost", x.map(1, 3), 0);
                for (int i = 0; i < lost; i++) {
                    DUE.is("kernel: row " + i, x.row(1, i), Edges.unit(q, n, i));
                }
            }
        });
    }

    private static void kernelBehindOtherCalls() {
        SmallSpaces x = zeroMap(3, 3);
        Edges.span(x, 0, 9, 3);
        x.meet(0, 0, 1);
        DUE.is("kernel behind meet", x.kernel(2), 3);
        x.round(0);
        DUE.is("kernel behind round", x.kernel(2), 3);
        x.image(0, 9);
        x.kernel(2);
        x.image(0, 0);
        DUE.is("kernel behind that of another map", x.kernel(2), 3);
    }

    private static void roundTakesSlots0To11() {
        EDGES.eachSlot("round(s)", 3, 2, 1, (x, s) -> x.round(s));
        EDGES.eachSlot("round(s) of a turn", 3, 2, 2, (x, s) -> {
            x.image(0, 1);
            x.image(1, 3);
            x.add(s, 1);
            return x.round(s);
        });
        EDGES.onlySlots("round(s)", (x, s) -> x.round(s));
    }

    private static void roundIs1AtLeast() {
        Edges.eachField((q, n) -> {
            SmallSpaces x = Edges.fresh(q, n);
            x.add(1, 1);
            Edges.fill(x, 2);
            for (int s = 0; s <= 2; s++) {
                DUE.is("round(" + s + ") of the first map", x.round(s), 1);
            }
            SmallSpaces y = zeroMap(q, n);
            DUE.is("round of 0 by what makes 0", y.round(0), 1);
            y.add(0, 1);
            DUE.is("round of a line by what makes 0", y.round(0), Edges.NONE);
        });
    }

    /** A map that brings place i to place i plus 1, and the last to the first. */
    private static SmallSpaces turning(int q, int n) {
        SmallSpaces x = Edges.fresh(q, n);
        for (int i = 0; i < n; i++) {
            x.image(i, Edges.unit(q, n, (i + 1) % n));
        }
        return x;
    }

    private static void roundIsTheLeast() {
        Edges.eachField((q, n) -> {
            SmallSpaces x = turning(q, n);
            x.add(0, 1);
            DUE.is("round of a line, n places turned", x.round(0), n);
            int ones = (Edges.power(q, n) - 1) / (q - 1);
            x.add(1, ones);
            DUE.is("round of what stays", x.round(1), 1);
        });
        SmallSpaces x = turning(2, 6);
        Edges.span(x, 0, 32 + 8 + 2);
        DUE.is("round of every second place", x.round(0), 2);
        Edges.span(x, 0, 32 + 4);
        DUE.is("round of every third place", x.round(0), 3);
        Edges.span(x, 0, 32, 4);
        DUE.is("round of a plane of every third place", x.round(0), 3);
        // Multiples of a vector are the same line, so it comes again ahead of the vector.
        SmallSpaces y = Edges.fresh(5, 1);
        y.image(0, 2);
        y.add(0, 1);
        DUE.is("round of a line that is stretched", y.round(0), 1);
        DUE.is("mapped of its vector", y.mapped(1), 2);
    }

    private static void roundMayBeLong() {
        // The last place's vector closes a polynomial whose root runs through all vectors but 0.
        int[][] due = {{2, 6, 32 + 16, 63}, {3, 5, 2 * 81 + 27, 121}, {5, 4, 3 * 125 + 25 + 5, 156}};
        for (int[] row : due) {
            SmallSpaces x = turning(row[0], row[1]);
            x.image(row[1] - 1, row[2]);
            x.add(0, 1);
            DUE.is("round over " + row[0] + " of " + row[1], x.round(0), row[3]);
            x.dual(0, 1);
            DUE.is("round over " + row[0] + " of " + row[1] + ", one dim less than all", x.round(1), row[3]);
        }
    }

    private static void roundIsNoneForWhatFallsAway() {
        Edges.eachField((q, n) -> {
            SmallSpaces x = turning(q, n);
            x.image(n - 1, 0);
            x.add(0, Edges.unit(q, n, 0));
            DUE.is("round of what falls away at last", x.round(0), Edges.NONE);
            Edges.fill(x, 0);
            DUE.is("round of all by what loses a place", x.round(0), Edges.NONE);
        });
    }

    private static void roundIsNoneForWhatNeverComesAgain() {
        SmallSpaces x = Edges.fresh(3, 2);
        x.image(1, 3);
        // Both places become place 0, so a line beside it is brought there and stays.
        Edges.span(x, 0, 1);
        DUE.is("round of what is brought elsewhere", x.round(0), Edges.NONE);
        Edges.span(x, 0, 3);
        DUE.is("round of where it is brought", x.round(0), 1);
        Edges.span(x, 0, 3 + 1);
        DUE.is("round of another that is brought there", x.round(0), Edges.NONE);
    }

    private static void roundLeavesTheSpace() {
        SmallSpaces x = turning(3, 5);
        Edges.span(x, 0, 81 + 9);
        x.round(0);
        EDGES.rows("round leaves the space", x, 0, 81 + 9);
        x.image(0, 0);
        x.round(0);
        EDGES.rows("round of NONE leaves the space", x, 0, 81 + 9);
    }

    private static SmallSpaces roundsDone(int times) {
        SmallSpaces x = Edges.fresh(3, 3);
        x.image(0, 1);
        for (int i = 0; i < times; i++) {
            x.round(0);
        }
        x.add(1, 5);
        return x;
    }

    private static void roundMayBeDone60Times() {
        SmallSpaces x = turning(3, 2);
        x.add(0, 1);
        for (int i = 1; i <= 60; i++) {
            DUE.is("round, time " + i, x.round(0), 2);
            DUE.is("round, time " + i + ": told(5)", x.told(5), i);
        }
        DUE.is("round, time 61", x.round(0), Edges.STATE);
        DUE.is("round, time 62", x.round(11), Edges.STATE);
        DUE.is("round, time 62: told(5)", x.told(5), 60);
        EDGES.refused(roundsDone(60), roundsDone(60), "round(0), time 61", Edges.STATE, y -> y.round(0));
        EDGES.refused(roundsDone(60), roundsDone(60), "round(1), time 61", Edges.STATE, y -> y.round(1));
    }

    private static void roundThatIsNoneIsDone() {
        SmallSpaces x = zeroMap(3, 2);
        x.add(0, 1);
        for (int i = 1; i <= 60; i++) {
            DUE.is("round of NONE, time " + i, x.round(0), Edges.NONE);
            DUE.is("round of NONE, time " + i + ": told(5)", x.told(5), i);
        }
        DUE.is("round of NONE, time 61", x.round(0), Edges.STATE);
    }

    private static void roundTellsUnknownAheadOfState() {
        for (int s : Edges.NO_SLOTS) {
            EDGES.refused(roundsDone(60), roundsDone(60), "round(" + s + ") behind 60", Edges.UNKNOWN, x -> x.round(s));
        }
    }

    private static void roundRefusedIsNotCounted() {
        SmallSpaces x = roundsDone(59);
        for (int s : Edges.NO_SLOTS) {
            DUE.is("round(" + s + ") behind 59", x.round(s), Edges.UNKNOWN);
        }
        DUE.is("round, time 60", x.round(0), 1);
        DUE.is("round, time 61", x.round(0), Edges.STATE);
    }

    private static void roundIsCountedOverFields() {
        SmallSpaces x = roundsDone(59);
        x.field(2, 2);
        DUE.is("round behind field, time 60", x.round(0), 1);
        x.field(2, 3);
        DUE.is("round behind field, time 61", x.round(0), Edges.STATE);
        DUE.is("round of another object", Edges.fresh(2, 3).round(0), 1);
    }
}
