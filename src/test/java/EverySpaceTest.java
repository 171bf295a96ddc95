/** Every space of every field, every greedy, and every map of the least, against the model that holds spaces as sets. */
public final class EverySpaceTest {
    /** An object is promised 512 calls: so many spaces, at 9 calls each, stay well below. */
    private static final int SPACES_OF_AN_OBJECT = 40;
    private static final int GREEDIES_OF_AN_OBJECT = 6;
    private static final Due DUE = new Due("EverySpaceTest");

    private final int q;
    private final int n;
    private SmallSpaces x;
    private Model model;

    private EverySpaceTest(int q, int n) {
        this.q = q;
        this.n = n;
        begin();
    }

    public static void main(String[] args) {
        Edges.eachField((q, n) -> {
            EverySpaceTest test = new EverySpaceTest(q, n);
            for (int k = 0; k <= n; k++) {
                test.everySpace(k);
                test.everyCount(k);
                test.everyGreedy(k);
            }
            // Wider ones have maps by the ten thousands: ModelTest draws from those.
            if (n <= (q == 2 ? 3 : 2)) {
                test.everyMap();
            }
        });
        DUE.end();
    }

    private void begin() {
        x = new SmallSpaces();
        model = new Model();
        same("field", x.field(q, n), model.field(q, n));
    }

    private void same(String call, long got, long want) {
        DUE.is("over " + q + " of " + n + ": " + call, got, want);
    }

    private void everySpace(int k) {
        int many = model.many(k);
        same("many(" + k + ")", x.many(k), many);
        for (int r = 0; r < many; r++) {
            if (r % SPACES_OF_AN_OBJECT == 0) {
                begin();
            }
            String what = "number " + r + " of dim " + k;
            same("numbered, " + what, x.numbered(0, k, r), model.numbered(0, k, r));
            same("number, " + what, x.number(0), r);
            same("dual, " + what, x.dual(0, 1), model.dual(0, 1));
            same("meet, " + what, x.meet(0, 1, 2), model.meet(0, 1, 2));
            same("join, " + what, x.join(0, 1, 3), model.join(0, 1, 3));
            same("apart, " + what, x.apart(0, 1), model.apart(0, 1));
            same("within, " + what, x.within(0, 1), model.within(0, 1));
            same("number of the dual, " + what, x.number(1), model.number(1));
            same("digest, " + what, x.digest(), model.digest());
        }
        begin();
        same("numbered, behind the last of dim " + k, x.numbered(0, k, many), Edges.OUTSIDE);
    }

    /** Of the spaces of dim m, one from amid them: the counts are the same for all. */
    private void everyCount(int m) {
        begin();
        int r = model.many(m) / 3;
        same("numbered(0, " + m + ", " + r + ")", x.numbered(0, m, r), model.numbered(0, m, r));
        for (int k = -1; k <= n + 1; k++) {
            same("over(0, " + k + ") of dim " + m, x.over(0, k), model.over(0, k));
            for (int j = -1; j <= n + 1; j++) {
                same("meeting(0, " + k + ", " + j + ") of dim " + m, x.meeting(0, k, j), model.meeting(0, k, j));
            }
        }
    }

    private void everyGreedy(int k) {
        for (int d = 1; d <= 12; d++) {
            if (d % GREEDIES_OF_AN_OBJECT == 1) {
                begin();
            }
            String what = "greedy(" + k + ", " + d + ")";
            same(what, x.greedy(k, d), model.greedy(k, d));
            same(what + ": least()", x.least(), model.least());
            same(what + ": bare()", x.bare(), model.bare());
            same(what + ": digest()", x.digest(), model.digest());
        }
    }

    private void everyMap() {
        for (int map = 0; map < Edges.power(q, n * n); map++) {
            begin();
            int rest = map;
            for (int i = 0; i < n; i++) {
                same("image of map " + map, x.image(i, rest % model.told(2)), model.image(i, rest % model.told(2)));
                rest /= model.told(2);
            }
            for (int v = 0; v < model.told(2); v++) {
                same("mapped(" + v + ") by map " + map, x.mapped(v), model.mapped(v));
            }
            same("kernel of map " + map, x.kernel(2), model.kernel(2));
            for (int k = 0; k <= n; k++) {
                for (int r = 0; r < model.many(k); r++) {
                    String what = " of number " + r + " of dim " + k + " by map " + map;
                    same("numbered," + what, x.numbered(0, k, r), model.numbered(0, k, r));
                    same("map" + what, x.map(0, 1), model.map(0, 1));
                    same("round" + what, x.round(0), model.round(0));
                    same("digest," + what, x.digest(), model.digest());
                }
            }
        }
    }
}
