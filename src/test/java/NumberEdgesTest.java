/** The boundary cases of promises 15 to 19, each sentence by itself: what is numbered and counted. */
public final class NumberEdgesTest {
    private static final Due DUE = new Due("NumberEdgesTest");
    private static final Edges EDGES = new Edges(DUE);

    public static void main(String[] args) {
        numberTakesSlots0To11();
        numberOf0AndOfAllIs0();
        firstHasItsPivotsFarthestLeft();
        lastHasItsPivotsFarthestRight();
        pivotsFartherLeftComeFirst();
        lessFiguresComeFirst();
        figuresOfRow0CountMost();
        numberedTakesSlots0To11();
        numberedTakesKFrom0ToN();
        numberedTakesNumbersThereAre();
        numberedTellsUnknownAheadOfOutside();
        numberedLeavesNothingOfWhatWasThere();
        manyIs0BeyondN();
        manyOf0AndOfAllIs1();
        overTakesSlots0To11();
        overIs0BelowItsDim();
        overOfItsOwnDimAndOfNIs1();
        overOf0IsMany();
        overIs0BeyondN();
        meetingTakesSlots0To11();
        meetingOf0AndOfAll();
        meetingInMoreThanEitherIs0();
        meetingInLessThanMustBeIs0();
        meetingIs0BeyondN();
        meetingInAllWaysIsMany();
        DUE.end();
    }

    private static void numberTakesSlots0To11() {
        EDGES.eachSlot("number(s)", 3, 2, 0, (x, s) -> x.number(s));
        EDGES.eachSlot("number(s) of the last", 3, 2, 3, (x, s) -> x.add(s, 1) == 1 ? x.number(s) : 9);
        EDGES.onlySlots("number(s)", (x, s) -> x.number(s));
    }

    private static void numberOf0AndOfAllIs0() {
        Edges.eachField((q, n) -> {
            SmallSpaces x = Edges.fresh(q, n);
            DUE.is("number of 0", x.number(0), 0);
            Edges.fill(x, 0);
            DUE.is("number of all", x.number(0), 0);
        });
    }

    private static void firstHasItsPivotsFarthestLeft() {
        Edges.eachField((q, n) -> {
            SmallSpaces x = Edges.fresh(q, n);
            for (int k = 0; k <= n; k++) {
                DUE.is("number of the first of dim " + k, x.number(0), 0);
                DUE.is("numbered(1, " + k + ", 0)", x.numbered(1, k, 0), k);
                DUE.is("the first of dim " + k, x.apart(0, 1), 0);
                x.add(0, Edges.unit(q, n, Math.min(k, n - 1)));
            }
        });
    }

    private static void lastHasItsPivotsFarthestRight() {
        Edges.eachField((q, n) -> {
            SmallSpaces x = Edges.fresh(q, n);
            for (int k = 0; k <= n; k++) {
                int last = x.many(k) - 1;
                DUE.is("number of the last of dim " + k, x.number(0), last);
                DUE.is("numbered(1, " + k + ", last)", x.numbered(1, k, last), k);
                DUE.is("the last of dim " + k, x.apart(0, 1), 0);
                x.add(0, Edges.unit(q, n, Math.max(n - 1 - k, 0)));
            }
        });
    }

    private static void pivotsFartherLeftComeFirst() {
        SmallSpaces x = Edges.fresh(2, 4);
        int[][] tables = {{8, 4}, {8, 2}, {8, 1}, {4, 2}, {4, 1}, {2, 1}};
        int[] due = {0, 16, 24, 28, 32, 34};
        for (int i = 0; i < due.length; i++) {
            Edges.span(x, 0, tables[i]);
            DUE.is("number of the first with pivots of " + tables[i][0] + ", " + tables[i][1], x.number(0), due[i]);
            x.numbered(1, 2, due[i]);
            EDGES.rows("numbered " + due[i], x, 1, tables[i]);
        }
    }

    private static void lessFiguresComeFirst() {
        SmallSpaces x = Edges.fresh(5, 2);
        for (int f = 0; f < 5; f++) {
            Edges.span(x, 0, 5 + f);
            DUE.is("number of 1" + f, x.number(0), f);
        }
        Edges.span(x, 0, 1);
        DUE.is("number of 01", x.number(0), 5);
    }

    private static void figuresOfRow0CountMost() {
        SmallSpaces x = Edges.fresh(3, 4);
        // Behind pivots 0 and 1 stand two figures of each row: 27, 9 of row 0, then 3, 1 of row 1.
        int[][] tables = {{27 + 3, 9}, {27 + 1, 9}, {27, 9 + 3}, {27, 9 + 1}, {27 + 8, 9 + 8}};
        int[] due = {27, 9, 3, 1, 80};
        for (int i = 0; i < due.length; i++) {
            Edges.span(x, 0, tables[i]);
            DUE.is("number of rows " + tables[i][0] + ", " + tables[i][1], x.number(0), due[i]);
            x.numbered(1, 2, due[i]);
            EDGES.rows("numbered " + due[i], x, 1, tables[i]);
        }
    }

    private static void numberedTakesSlots0To11() {
        EDGES.eachSlot("numbered(s, 1, 3)", 3, 2, 1, (x, s) -> x.numbered(s, 1, 3));
        EDGES.noOtherSlot("numbered(s, 2, 12)", (x, s) -> x.numbered(s, 2, 12));
        EDGES.onlySlots("numbered(s, 1, 0)", (x, s) -> x.numbered(s, 1, 0));
    }

    private static void numberedTakesKFrom0ToN() {
        Edges.eachField((q, n) -> {
            SmallSpaces x = Edges.fresh(q, n);
            DUE.is("numbered(0, 0, 0)", x.numbered(0, 0, 0), 0);
            DUE.is("numbered(0, n, 0)", x.numbered(0, n, 0), n);
            for (int k : Edges.beyond(n + 1)) {
                EDGES.refused(q, n, "numbered(0, " + k + ", 0)", Edges.OUTSIDE, y -> y.numbered(0, k, 0));
            }
        });
    }

    private static void numberedTakesNumbersThereAre() {
        Edges.eachField((q, n) -> {
            for (int k = 0; k <= n; k++) {
                int dim = k;
                SmallSpaces x = Edges.fresh(q, n);
                int many = x.many(k);
                DUE.is("numbered(0, " + k + ", 0)", x.numbered(0, k, 0), k);
                DUE.is("number of the first", x.number(0), 0);
                DUE.is("numbered(0, " + k + ", last)", x.numbered(0, k, many - 1), k);
                DUE.is("number of the last", x.number(0), many - 1);
                for (int r : Edges.beyond(many)) {
                    EDGES.refused(q, n, "numbered(0, " + k + ", " + r + ")", Edges.OUTSIDE, y -> y.numbered(0, dim, r));
                }
            }
        });
    }

    private static void numberedTellsUnknownAheadOfOutside() {
        EDGES.onlySlots("numbered(s, -1, 0)", (x, s) -> x.numbered(s, -1, 0));
        EDGES.onlySlots("numbered(s, 4, 0)", (x, s) -> x.numbered(s, 4, 0));
        EDGES.onlySlots("numbered(s, 1, -1)", (x, s) -> x.numbered(s, 1, -1));
        EDGES.onlySlots("numbered(s, 1, 13)", (x, s) -> x.numbered(s, 1, 13));
    }

    private static void numberedLeavesNothingOfWhatWasThere() {
        SmallSpaces x = Edges.fresh(3, 3);
        Edges.fill(x, 0);
        x.numbered(0, 1, 12);
        EDGES.rows("numbered over all", x, 0, 1);
        x.numbered(0, 2, 0);
        EDGES.rows("numbered over a line", x, 0, 9, 3);
        x.numbered(0, 0, 0);
        EDGES.rows("numbered 0", x, 0);
        Edges.span(x, 0, 9 + 6 + 2);
        x.numbered(0, 2, 9);
        EDGES.rows("numbered over what stood at a pivot", x, 0, 9, 1);
    }

    private static void manyIs0BeyondN() {
        Edges.eachField((q, n) -> {
            SmallSpaces x = Edges.fresh(q, n);
            for (int k : Edges.beyond(n + 1)) {
                DUE.is("many(" + k + ") over " + q + " of " + n, x.many(k), 0);
            }
        });
    }

    private static void manyOf0AndOfAllIs1() {
        Edges.eachField((q, n) -> {
            SmallSpaces x = Edges.fresh(q, n);
            DUE.is("many(0)", x.many(0), 1);
            DUE.is("many(n)", x.many(n), 1);
            int lines = (Edges.power(q, n) - 1) / (q - 1);
            DUE.is("many(1)", x.many(1), lines);
            DUE.is("many(n less 1)", x.many(n - 1), lines);
        });
    }

    private static void overTakesSlots0To11() {
        EDGES.eachSlot("over(s, 1)", 3, 2, 4, (x, s) -> x.over(s, 1));
        EDGES.eachSlot("over(s, 1) of a line", 3, 2, 1, (x, s) -> x.add(s, 1) == 1 ? x.over(s, 1) : 9);
        EDGES.onlySlots("over(s, 1)", (x, s) -> x.over(s, 1));
        EDGES.onlySlots("over(s, -1)", (x, s) -> x.over(s, -1));
        EDGES.onlySlots("over(s, 4)", (x, s) -> x.over(s, 4));
    }

    private static void overIs0BelowItsDim() {
        eachDim((x, n, m) -> {
            for (int k = 0; k < m; k++) {
                DUE.is("over of dim " + m + ", k " + k, x.over(0, k), 0);
            }
        });
    }

    private static void overOfItsOwnDimAndOfNIs1() {
        eachDim((x, n, m) -> {
            DUE.is("over of dim " + m + ", k the same", x.over(0, m), 1);
            DUE.is("over of dim " + m + ", k n", x.over(0, n), 1);
        });
    }

    private static void overOf0IsMany() {
        Edges.eachField((q, n) -> {
            SmallSpaces x = Edges.fresh(q, n);
            for (int k = 0; k <= n; k++) {
                DUE.is("over(0, " + k + ") of 0", x.over(0, k), x.many(k));
            }
        });
    }

    private static void overIs0BeyondN() {
        eachDim((x, n, m) -> {
            for (int k : Edges.beyond(n + 1)) {
                DUE.is("over of dim " + m + ", k " + k, x.over(0, k), 0);
            }
        });
    }

    private static void meetingTakesSlots0To11() {
        EDGES.eachSlot("meeting(s, 1, 0)", 3, 2, 4, (x, s) -> x.meeting(s, 1, 0));
        EDGES.eachSlot("meeting(s, 1, 0) of a line", 3, 2, 3, (x, s) -> x.add(s, 1) == 1 ? x.meeting(s, 1, 0) : 9);
        EDGES.onlySlots("meeting(s, 1, 0)", (x, s) -> x.meeting(s, 1, 0));
        EDGES.onlySlots("meeting(s, -1, 0)", (x, s) -> x.meeting(s, -1, 0));
        EDGES.onlySlots("meeting(s, 1, 9)", (x, s) -> x.meeting(s, 1, 9));
    }

    private static void meetingOf0AndOfAll() {
        Edges.eachField((q, n) -> {
            SmallSpaces x = Edges.fresh(q, n);
            Edges.fill(x, 1);
            for (int k = 0; k <= n; k++) {
                DUE.is("meeting of 0 in 0, k " + k, x.meeting(0, k, 0), x.many(k));
                DUE.is("meeting of all in k, k " + k, x.meeting(1, k, k), x.many(k));
                if (k > 0) {
                    DUE.is("meeting of 0 in more, k " + k, x.meeting(0, k, 1), 0);
                    DUE.is("meeting of all in less, k " + k, x.meeting(1, k, k - 1), 0);
                }
            }
        });
    }

    private static void meetingInMoreThanEitherIs0() {
        eachDim((x, n, m) -> {
            for (int k = 0; k <= n; k++) {
                DUE.is("meeting of dim " + m + " in one more", x.meeting(0, k, Math.min(m, k) + 1), 0);
                boolean may = x.meeting(0, k, Math.min(m, k)) > 0;
                DUE.holds("meeting of dim " + m + " in the lesser of both, k " + k, may);
            }
        });
    }

    private static void meetingInLessThanMustBeIs0() {
        eachDim((x, n, m) -> {
            for (int k = 0; k <= n; k++) {
                int must = Math.max(0, m + k - n);
                DUE.is("meeting of dim " + m + " in one less than must be, k " + k, x.meeting(0, k, must - 1), 0);
                DUE.holds("meeting of dim " + m + " in what must be, k " + k, x.meeting(0, k, must) > 0);
            }
        });
    }

    private static void meetingIs0BeyondN() {
        eachDim((x, n, m) -> {
            for (int wrong : Edges.beyond(n + 1)) {
                DUE.is("meeting, k " + wrong, x.meeting(0, wrong, 0), 0);
                DUE.is("meeting, j " + wrong, x.meeting(0, 1, wrong), 0);
                DUE.is("meeting, k and j " + wrong, x.meeting(0, wrong, wrong), 0);
            }
        });
    }

    private static void meetingInAllWaysIsMany() {
        eachDim((x, n, m) -> {
            for (int k = 0; k <= n; k++) {
                int all = 0;
                for (int j = 0; j <= n; j++) {
                    all += x.meeting(0, k, j);
                }
                DUE.is("meeting of dim " + m + " in all ways, k " + k, all, x.many(k));
                DUE.is("meeting of dim " + m + " in itself, k " + k, x.meeting(0, k, m), x.over(0, k));
            }
        });
    }

    private interface EachDim {
        void with(SmallSpaces x, int n, int m);
    }

    /** Objects of each field with a space of each dim in slot 0, neither the first nor the last of its dim. */
    private static void eachDim(EachDim test) {
        Edges.eachField((q, n) -> {
            for (int m = 0; m <= n; m++) {
                SmallSpaces x = Edges.fresh(q, n);
                x.numbered(0, m, x.many(m) / 2);
                test.with(x, n, m);
            }
        });
    }
}
