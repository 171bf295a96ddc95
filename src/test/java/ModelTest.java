import java.util.Random;

/** Long runs of calls, drawn by fixed seeds, against the model that holds spaces as sets. */
public final class ModelTest {
    private static final int[] WILD = {-1, Integer.MIN_VALUE, Integer.MAX_VALUE, 12, 13, 40, 41, 64, 243, 625};
    private static final int[][] FIELDS = {{2, 1}, {2, 2}, {2, 3}, {2, 4}, {2, 5}, {2, 6}, {3, 1}, {3, 2},
        {3, 3}, {3, 4}, {3, 5}, {5, 1}, {5, 2}, {5, 3}, {5, 4}};
    private static final int PAIRS = 250;
    private static final Due DUE = new Due("ModelTest");

    private final Random random;
    private final SmallSpaces x = new SmallSpaces();
    private final Model model = new Model();
    private final int run;
    private final boolean wild;

    private ModelTest(int run) {
        this.run = run;
        random = new Random(run);
        wild = run % 3 == 0;
    }

    public static void main(String[] args) {
        for (int run = 0; run < 450 && DUE.wrongSoFar() == 0; run++) {
            new ModelTest(run).go();
        }
        DUE.end();
    }

    private void go() {
        int[] first = FIELDS[run % FIELDS.length];
        same("field(" + first[0] + ", " + first[1] + ")", x.field(first[0], first[1]),
            model.field(first[0], first[1]));
        for (int i = 0; i < PAIRS && DUE.wrongSoFar() == 0; i++) {
            call(random.nextInt(120));
            same("digest()", x.digest(), model.digest());
        }
    }

    private void same(String call, long got, long want) {
        DUE.is("run " + run + ": " + call, got, want);
    }

    private int pick(int below) {
        boolean odd = random.nextInt(wild ? 6 : 60) == 0;
        return odd ? WILD[random.nextInt(WILD.length)] : random.nextInt(below + (wild ? 2 : 0));
    }

    private int slot() {
        return pick(12);
    }

    private int vector() {
        return pick(model.told(2));
    }

    private int dim() {
        return pick(model.told(1) + 1);
    }

    private void call(int which) {
        if (which < 1) {
            field();
        } else if (which < 40) {
            onSpaces(which % 4);
        } else if (which < 64) {
            askSpaces(which % 8);
        } else if (which < 74) {
            numbers(which % 5);
        } else if (which < 94) {
            heap(which % 5);
        } else if (which < 112) {
            maps(which % 6);
        } else {
            rare(which);
        }
    }

    private void field() {
        int[] next = FIELDS[random.nextInt(FIELDS.length)];
        int q = random.nextInt(4) == 0 ? pick(7) : next[0];
        int n = random.nextInt(4) == 0 ? pick(8) : next[1];
        same("field(" + q + ", " + n + ")", x.field(q, n), model.field(q, n));
    }

    private void onSpaces(int which) {
        int a = slot();
        int b = slot();
        int t = slot();
        int v = vector();
        switch (which) {
            case 0 -> same("add(" + a + ", " + v + ")", x.add(a, v), model.add(a, v));
            case 1 -> same("join(" + a + ", " + b + ", " + t + ")", x.join(a, b, t), model.join(a, b, t));
            case 2 -> same("meet(" + a + ", " + b + ", " + t + ")", x.meet(a, b, t), model.meet(a, b, t));
            default -> same("dual(" + a + ", " + t + ")", x.dual(a, t), model.dual(a, t));
        }
    }

    private void askSpaces(int which) {
        int a = slot();
        int b = slot();
        int v = vector();
        int w = vector();
        int i = dim();
        switch (which) {
            case 0 -> same("dim(" + a + ")", x.dim(a), model.dim(a));
            case 1 -> same("row(" + a + ", " + i + ")", x.row(a, i), model.row(a, i));
            case 2 -> same("has(" + a + ", " + v + ")", x.has(a, v), model.has(a, v));
            case 3 -> same("within(" + a + ", " + b + ")", x.within(a, b), model.within(a, b));
            case 4 -> same("apart(" + a + ", " + b + ")", x.apart(a, b), model.apart(a, b));
            case 5 -> same("plus(" + v + ", " + w + ", " + i + ")", x.plus(v, w, i), model.plus(v, w, i));
            case 6 -> same("times(" + v + ", " + w + ")", x.times(v, w), model.times(v, w));
            default -> same("told(" + i + ")", x.told(i), model.told(i));
        }
    }

    private void numbers(int which) {
        int s = slot();
        int k = dim();
        int j = dim();
        int r = pick(Math.max(1, model.many(k)));
        switch (which) {
            case 0 -> same("number(" + s + ")", x.number(s), model.number(s));
            case 1 -> same("numbered(" + s + ", " + k + ", " + r + ")", x.numbered(s, k, r),
                model.numbered(s, k, r));
            case 2 -> same("many(" + k + ")", x.many(k), model.many(k));
            case 3 -> same("over(" + s + ", " + k + ")", x.over(s, k), model.over(s, k));
            default -> same("meeting(" + s + ", " + k + ", " + j + ")", x.meeting(s, k, j),
                model.meeting(s, k, j));
        }
    }

    private void heap(int which) {
        int s = slot();
        int i = pick(Math.max(1, model.told(3)));
        switch (which) {
            case 0, 1 -> same("put(" + s + ")", x.put(s), model.put(s));
            case 2 -> same("take(" + s + ", " + i + ")", x.take(s, i), model.take(s, i));
            case 3 -> same("least()", x.least(), model.least());
            default -> same("bare()", x.bare(), model.bare());
        }
    }

    private void maps(int which) {
        int a = slot();
        int t = slot();
        int v = vector();
        int i = pick(model.told(1));
        switch (which) {
            case 0 -> same("image(" + i + ", " + v + ")", x.image(i, v), model.image(i, v));
            case 1 -> same("mapped(" + v + ")", x.mapped(v), model.mapped(v));
            case 2, 3 -> same("map(" + a + ", " + t + ")", x.map(a, t), model.map(a, t));
            case 4 -> same("kernel(" + t + ")", x.kernel(t), model.kernel(t));
            default -> same("round(" + a + ")", x.round(a), model.round(a));
        }
    }

    private void rare(int which) {
        int s = slot();
        int k = dim();
        int d = 1 + pick(12);
        if (which < 114) {
            same("clear(" + s + ")", x.clear(s), model.clear(s));
        } else if (which < 115) {
            same("empty()", x.empty(), model.empty());
        } else {
            same("greedy(" + k + ", " + d + ")", x.greedy(k, d), model.greedy(k, d));
        }
    }
}
