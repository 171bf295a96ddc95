import java.util.ArrayList;
import java.util.Arrays;
import java.util.BitSet;
import java.util.Collections;
import java.util.HashMap;
import java.util.HashSet;
import java.util.List;
import java.util.Map;
import java.util.Set;

/** The document once more, the slow way: a space is the set of all its vectors. */
final class Model {
    private static final int NONE = -1, UNKNOWN = -101, OUTSIDE = -102, STATE = -103, FULL = -104;
    private static final Map<String, World> WORLDS = new HashMap<>();

    private World world;
    private final BitSet[] slots = new BitSet[12];
    private final List<BitSet> heap = new ArrayList<>();
    private int[] images;
    private int greedyDone;
    private int roundsDone;

    Model() {
        begin(2, 1);
    }

    private void begin(int q, int n) {
        world = WORLDS.computeIfAbsent(q + "," + n, key -> new World(q, n));
        for (int s = 0; s < 12; s++) {
            slots[s] = world.zero();
        }
        heap.clear();
        images = new int[n];
        for (int i = 0; i < n; i++) {
            images[i] = world.worth(i);
        }
    }

    int field(int q, int n) {
        int most = q == 2 ? 6 : q == 3 ? 5 : q == 5 ? 4 : 0;
        if (n < 1 || n > most) {
            return OUTSIDE;
        }
        begin(q, n);
        return world.vectors;
    }

    int plus(int v, int w, int k) {
        if (noVector(v) || noVector(w)) {
            return UNKNOWN;
        }
        return k < 0 || k >= world.q ? OUTSIDE : world.sums[v][world.multiples[k][w]];
    }

    int times(int v, int w) {
        return noVector(v) || noVector(w) ? UNKNOWN : world.product(v, w);
    }

    int add(int s, int v) {
        if (noSlot(s) || noVector(v)) {
            return UNKNOWN;
        }
        slots[s] = world.with(slots[s], v);
        return dim(s);
    }

    int clear(int s) {
        int had = dim(s);
        if (had != UNKNOWN) {
            slots[s] = world.zero();
        }
        return had;
    }

    int dim(int s) {
        return noSlot(s) ? UNKNOWN : world.dim(slots[s]);
    }

    int row(int s, int i) {
        if (noSlot(s)) {
            return UNKNOWN;
        }
        int[] table = world.table(slots[s]);
        return i < 0 || i >= table.length ? NONE : table[i];
    }

    int join(int a, int b, int t) {
        return noSlot(a) || noSlot(b) || noSlot(t) ? UNKNOWN : set(t, world.join(slots[a], slots[b]));
    }

    int meet(int a, int b, int t) {
        return noSlot(a) || noSlot(b) || noSlot(t) ? UNKNOWN : set(t, world.meet(slots[a], slots[b]));
    }

    int dual(int a, int t) {
        return noSlot(a) || noSlot(t) ? UNKNOWN : set(t, world.dual(slots[a]));
    }

    int has(int s, int v) {
        return noSlot(s) || noVector(v) ? UNKNOWN : slots[s].get(v) ? 1 : 0;
    }

    int within(int a, int b) {
        if (noSlot(a) || noSlot(b)) {
            return UNKNOWN;
        }
        return world.meet(slots[a], slots[b]).equals(slots[a]) ? 1 : 0;
    }

    int apart(int a, int b) {
        return noSlot(a) || noSlot(b) ? UNKNOWN : world.apart(slots[a], slots[b]);
    }

    int number(int s) {
        return noSlot(s) ? UNKNOWN : world.all(dim(s)).indexOf(slots[s]);
    }

    int numbered(int s, int k, int r) {
        if (noSlot(s)) {
            return UNKNOWN;
        }
        if (noDim(k) || r < 0 || r >= many(k)) {
            return OUTSIDE;
        }
        return set(s, world.all(k).get(r));
    }

    int many(int k) {
        return noDim(k) ? 0 : world.all(k).size();
    }

    int over(int s, int k) {
        return noSlot(s) ? UNKNOWN : meeting(s, k, dim(s));
    }

    int meeting(int s, int k, int j) {
        if (noSlot(s)) {
            return UNKNOWN;
        }
        int count = 0;
        for (BitSet space : noDim(k) ? List.<BitSet>of() : world.all(k)) {
            count += world.dim(world.meet(space, slots[s])) == j ? 1 : 0;
        }
        return count;
    }

    int put(int s) {
        if (noSlot(s)) {
            return UNKNOWN;
        }
        if (heap.size() == 40) {
            return FULL;
        }
        heap.add(slots[s]);
        return heap.size();
    }

    int empty() {
        int had = heap.size();
        heap.clear();
        return had;
    }

    int take(int s, int i) {
        return noSlot(s) || i < 0 || i >= heap.size() ? UNKNOWN : set(s, heap.get(i));
    }

    int least() {
        int least = NONE;
        for (int i = 0; i < heap.size(); i++) {
            for (int j = i + 1; j < heap.size(); j++) {
                int apart = world.apart(heap.get(i), heap.get(j));
                least = least == NONE ? apart : Math.min(least, apart);
            }
        }
        return least;
    }

    int bare() {
        BitSet held = new BitSet();
        for (BitSet space : heap) {
            held.or(space);
        }
        return world.vectors - held.cardinality();
    }

    int greedy(int k, int d) {
        if (noDim(k) || d < 1 || d > 12) {
            return OUTSIDE;
        }
        if (greedyDone == 10) {
            return STATE;
        }
        greedyDone++;
        heap.clear();
        for (BitSet space : world.all(k)) {
            boolean far = true;
            for (BitSet there : heap) {
                far &= world.apart(space, there) >= d;
            }
            if (far && heap.size() < 40) {
                heap.add(space);
            }
        }
        return heap.size();
    }

    int image(int i, int v) {
        if (i < 0 || i >= world.n || noVector(v)) {
            return UNKNOWN;
        }
        int had = images[i];
        images[i] = v;
        return had;
    }

    int mapped(int v) {
        if (noVector(v)) {
            return UNKNOWN;
        }
        int made = 0;
        for (int i = 0; i < world.n; i++) {
            made = world.sums[made][world.multiples[world.figure(v, i)][images[i]]];
        }
        return made;
    }

    int map(int a, int t) {
        return noSlot(a) || noSlot(t) ? UNKNOWN : set(t, mappedSet(slots[a], allMapped()));
    }

    int kernel(int t) {
        if (noSlot(t)) {
            return UNKNOWN;
        }
        BitSet kernel = new BitSet();
        for (int v = 0; v < world.vectors; v++) {
            kernel.set(v, mapped(v) == 0);
        }
        return set(t, kernel);
    }

    int round(int s) {
        if (noSlot(s)) {
            return UNKNOWN;
        }
        if (roundsDone == 60) {
            return STATE;
        }
        roundsDone++;
        int[] made = allMapped();
        BitSet now = slots[s];
        for (int step = 1; step <= 3000; step++) {
            now = mappedSet(now, made);
            if (now.equals(slots[s])) {
                return step;
            }
        }
        return NONE;
    }

    int told(int what) {
        int[] all = {world.q, world.n, world.vectors, heap.size(), greedyDone, roundsDone};
        return what < 0 || what >= all.length ? OUTSIDE : all[what];
    }

    long digest() {
        List<Integer> numbers = new ArrayList<>(List.of(world.q, world.n));
        List<BitSet> spaces = new ArrayList<>(Arrays.asList(slots));
        spaces.addAll(heap);
        for (BitSet space : spaces) {
            numbers.add(world.dim(space));
            for (int row : world.table(space)) {
                numbers.add(row);
            }
        }
        for (int v : images) {
            numbers.add(v);
        }
        numbers.add(greedyDone);
        numbers.add(roundsDone);
        long h = 167;
        for (int x : numbers) {
            h = 31 * h + x;
        }
        return h;
    }

    private int set(int t, BitSet space) {
        slots[t] = space;
        return world.dim(space);
    }

    private int[] allMapped() {
        int[] made = new int[world.vectors];
        for (int v = 0; v < made.length; v++) {
            made[v] = mapped(v);
        }
        return made;
    }

    private static BitSet mappedSet(BitSet space, int[] made) {
        BitSet result = new BitSet();
        space.stream().forEach(v -> result.set(made[v]));
        return result;
    }

    private static boolean noSlot(int s) {
        return s < 0 || s > 11;
    }

    private boolean noVector(int v) {
        return v < 0 || v >= world.vectors;
    }

    private boolean noDim(int k) {
        return k < 0 || k > world.n;
    }

    /** All spaces of n places over q numbers, found by joining and put in order by their tables. */
    private static final class World {
        final int q;
        final int n;
        final int vectors;
        final int[][] sums;
        final int[][] multiples;
        private final Map<BitSet, int[]> tables = new HashMap<>();
        private final List<List<BitSet>> byDim = new ArrayList<>();

        World(int q, int n) {
            this.q = q;
            this.n = n;
            vectors = (int) Math.round(Math.pow(q, n));
            sums = new int[vectors][vectors];
            multiples = new int[q][vectors];
            for (int v = 0; v < vectors; v++) {
                for (int w = 0; w < vectors; w++) {
                    for (int i = 0; i < n; i++) {
                        sums[v][w] += (figure(v, i) + figure(w, i)) % q * worth(i);
                    }
                }
                for (int k = 0; k < q; k++) {
                    for (int i = 0; i < n; i++) {
                        multiples[k][v] += k * figure(v, i) % q * worth(i);
                    }
                }
            }
            findAll();
        }

        private void findAll() {
            Set<BitSet> found = new HashSet<>(List.of(zero()));
            for (int k = 0; k <= n; k++) {
                List<BitSet> here = new ArrayList<>(found);
                for (BitSet space : here) {
                    tables.put(space, findTable(space));
                }
                Collections.sort(here, (a, b) -> compareTables(tables.get(a), tables.get(b)));
                byDim.add(here);
                Set<BitSet> next = new HashSet<>();
                for (BitSet space : here) {
                    BitSet seen = (BitSet) space.clone();
                    for (int v = 0; v < vectors; v++) {
                        if (!seen.get(v)) {
                            BitSet wider = with(space, v);
                            seen.or(wider);
                            next.add(wider);
                        }
                    }
                }
                found = next;
            }
        }

        int worth(int place) {
            return (int) Math.round(Math.pow(q, n - 1 - place));
        }

        int figure(int v, int place) {
            return v / worth(place) % q;
        }

        int product(int v, int w) {
            int total = 0;
            for (int i = 0; i < n; i++) {
                total += figure(v, i) * figure(w, i);
            }
            return total % q;
        }

        BitSet zero() {
            BitSet zero = new BitSet();
            zero.set(0);
            return zero;
        }

        BitSet with(BitSet space, int v) {
            BitSet wider = new BitSet();
            for (int k = 0; k < q; k++) {
                int multiple = multiples[k][v];
                space.stream().forEach(w -> wider.set(sums[w][multiple]));
            }
            return wider;
        }

        BitSet join(BitSet a, BitSet b) {
            BitSet sum = new BitSet();
            a.stream().forEach(v -> b.stream().forEach(w -> sum.set(sums[v][w])));
            return sum;
        }

        BitSet meet(BitSet a, BitSet b) {
            BitSet both = (BitSet) a.clone();
            both.and(b);
            return both;
        }

        BitSet dual(BitSet space) {
            BitSet dual = new BitSet();
            for (int v = 0; v < vectors; v++) {
                int w = v;
                dual.set(v, space.stream().allMatch(u -> product(u, w) == 0));
            }
            return dual;
        }

        int dim(BitSet space) {
            int dim = 0;
            for (int size = space.cardinality(); size > 1; size /= q) {
                dim++;
            }
            return dim;
        }

        int apart(BitSet a, BitSet b) {
            return dim(a) + dim(b) - 2 * dim(meet(a, b));
        }

        List<BitSet> all(int k) {
            return byDim.get(k);
        }

        int[] table(BitSet space) {
            return tables.get(space);
        }

        private int lead(int v) {
            int place = 0;
            while (place < n && figure(v, place) == 0) {
                place++;
            }
            return place;
        }

        /** A row is the one vector of the space with a 1 at its pivot, its first, and 0 at the others. */
        private int[] findTable(BitSet space) {
            int[] leads = space.stream().filter(v -> v != 0).map(this::lead).distinct().sorted().toArray();
            int[] rows = new int[leads.length];
            for (int r = 0; r < leads.length; r++) {
                int pivot = leads[r];
                int[] fit = space.stream().filter(v -> lead(v) == pivot && Arrays.stream(leads)
                    .allMatch(p -> figure(v, p) == (p == pivot ? 1 : 0))).toArray();
                if (fit.length != 1) {
                    throw new IllegalStateException("a table has " + fit.length + " rows for one pivot");
                }
                rows[r] = fit[0];
            }
            return rows;
        }

        private int compareTables(int[] a, int[] b) {
            for (int r = 0; r < a.length; r++) {
                if (lead(a[r]) != lead(b[r])) {
                    return lead(a[r]) - lead(b[r]);
                }
            }
            // The pivots are the same, and so are all figures in their places: the first row that
            // differs as a number tells which has the less figure first.
            for (int r = 0; r < a.length; r++) {
                if (a[r] != b[r]) {
                    return a[r] - b[r];
                }
            }
            return 0;
        }
    }
}
