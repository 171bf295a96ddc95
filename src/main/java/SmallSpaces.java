import java.util.Arrays;

/** All spaces of a small space over a field of 2, 3 or 5 numbers, as DOC.md promises them. */
public final class SmallSpaces {
    public static final int NONE = -1, UNKNOWN = -101, OUTSIDE = -102, STATE = -103, FULL = -104;

    private static final int SLOTS = 12;
    private static final int HEAP_LIMIT = 40;
    private static final int PLACES = 6;
    private static final int MOST_APART = 12;
    private static final int GREEDY_LIMIT = 10;
    private static final int ROUND_LIMIT = 60;
    private static final int ROUND_STEPS = 3000;
    private static final long DIGEST_START = 167;

    private final Frame frame;
    private final Space[] slots;
    private final Heap heap;
    private final Linear linear;
    // Answers are made here first: a call's target slot may be one of its sources too.
    private final Space made;
    private final Space other;
    private final int[] figures;
    private int greedyDone;
    private int roundsDone;

    public SmallSpaces() {
        frame = new Frame();
        slots = new Space[SLOTS];
        for (int s = 0; s < SLOTS; s++) {
            slots[s] = new Space(frame);
        }
        heap = new Heap(frame);
        linear = new Linear(frame);
        made = new Space(frame);
        other = new Space(frame);
        figures = new int[PLACES];
    }

    // ---- the field

    public int field(int q, int n) {
        if (n < 1 || n > mostPlaces(q)) {
            return OUTSIDE;
        }
        frame.become(q, n);
        for (int s = 0; s < SLOTS; s++) {
            slots[s].becomeZero();
        }
        heap.size = 0;
        linear.becomeIdentity();
        return frame.vectors;
    }

    public int plus(int v, int w, int k) {
        if (!frame.isVector(v) || !frame.isVector(w)) {
            return UNKNOWN;
        }
        if (k < 0 || k >= frame.q) {
            return OUTSIDE;
        }
        return frame.sum(v, w, k);
    }

    public int times(int v, int w) {
        if (!frame.isVector(v) || !frame.isVector(w)) {
            return UNKNOWN;
        }
        return frame.product(v, w);
    }

    // ---- slots

    public int add(int s, int v) {
        if (!isSlot(s) || !frame.isVector(v)) {
            return UNKNOWN;
        }
        frame.spell(v, figures, 0);
        slots[s].joinVector(figures, 0);
        return slots[s].rank();
    }

    public int clear(int s) {
        if (!isSlot(s)) {
            return UNKNOWN;
        }
        int had = slots[s].rank();
        slots[s].becomeZero();
        return had;
    }

    public int dim(int s) {
        return isSlot(s) ? slots[s].rank() : UNKNOWN;
    }

    public int row(int s, int i) {
        return isSlot(s) ? slots[s].rowNumber(i) : UNKNOWN;
    }

    public int join(int a, int b, int t) {
        if (!isSlot(a) || !isSlot(b) || !isSlot(t)) {
            return UNKNOWN;
        }
        made.copyFrom(slots[a]);
        made.joinSpace(slots[b]);
        return settle(made, t);
    }

    public int meet(int a, int b, int t) {
        if (!isSlot(a) || !isSlot(b) || !isSlot(t)) {
            return UNKNOWN;
        }
        // What two spaces have together is the dual of what their duals make.
        made.becomeDual(slots[a]);
        other.becomeDual(slots[b]);
        other.joinSpace(made);
        made.becomeDual(other);
        return settle(made, t);
    }

    public int dual(int a, int t) {
        if (!isSlot(a) || !isSlot(t)) {
            return UNKNOWN;
        }
        made.becomeDual(slots[a]);
        return settle(made, t);
    }

    public int has(int s, int v) {
        if (!isSlot(s) || !frame.isVector(v)) {
            return UNKNOWN;
        }
        frame.spell(v, figures, 0);
        return slots[s].holds(figures, 0) ? 1 : 0;
    }

    public int within(int a, int b) {
        if (!isSlot(a) || !isSlot(b)) {
            return UNKNOWN;
        }
        return slots[a].liesIn(slots[b]) ? 1 : 0;
    }

    public int apart(int a, int b) {
        if (!isSlot(a) || !isSlot(b)) {
            return UNKNOWN;
        }
        return made.distance(slots[a], slots[b]);
    }

    // ---- numbers

    public int number(int s) {
        return isSlot(s) ? slots[s].ordinal() : UNKNOWN;
    }

    public int numbered(int s, int k, int r) {
        if (!isSlot(s)) {
            return UNKNOWN;
        }
        if (!isDim(k) || r < 0 || r >= frame.spaces(frame.n, k)) {
            return OUTSIDE;
        }
        slots[s].becomeOrdinal(k, r);
        return k;
    }

    public int many(int k) {
        return frame.spaces(frame.n, k);
    }

    public int over(int s, int k) {
        if (!isSlot(s)) {
            return UNKNOWN;
        }
        if (!isDim(k)) {
            return 0;
        }
        // Spaces over one of dim m are as the spaces of what is left of the whole beside it.
        int m = slots[s].rank();
        return frame.spaces(frame.n - m, k - m);
    }

    public int meeting(int s, int k, int j) {
        if (!isSlot(s)) {
            return UNKNOWN;
        }
        if (!isDim(k) || !isDim(j)) {
            return 0;
        }
        // A choice of the common part, one of the part outside, and for each vector of a base
        // of the part outside a choice of what of the told space is added to it.
        int m = slots[s].rank();
        int choices = frame.spaces(m, j) * frame.spaces(frame.n - m, k - j);
        return choices == 0 ? 0 : choices * frame.power((m - j) * (k - j));
    }

    // ---- the heap

    public int put(int s) {
        if (!isSlot(s)) {
            return UNKNOWN;
        }
        if (heap.size >= HEAP_LIMIT) {
            return FULL;
        }
        heap.accept(slots[s]);
        return heap.size;
    }

    public int empty() {
        int had = heap.size;
        heap.size = 0;
        return had;
    }

    public int take(int s, int i) {
        if (!isSlot(s) || i < 0 || i >= heap.size) {
            return UNKNOWN;
        }
        return settle(heap.spaces[i], s);
    }

    public int least() {
        return heap.leastDistance();
    }

    public int bare() {
        int count = 0;
        for (int v = 0; v < frame.vectors; v++) {
            frame.spell(v, figures, 0);
            if (!heap.covers(figures)) {
                count++;
            }
        }
        return count;
    }

    public int greedy(int k, int d) {
        if (!isDim(k) || d < 1 || d > MOST_APART) {
            return OUTSIDE;
        }
        if (greedyDone >= GREEDY_LIMIT) {
            return STATE;
        }
        greedyDone++;
        heap.size = 0;
        int candidates = frame.spaces(frame.n, k);
        for (int r = 0; r < candidates && heap.size < HEAP_LIMIT; r++) {
            made.becomeOrdinal(k, r);
            if (heap.allApart(made, d)) {
                heap.accept(made);
            }
        }
        return heap.size;
    }

    // ---- the map

    public int image(int i, int v) {
        if (i < 0 || i >= frame.n || !frame.isVector(v)) {
            return UNKNOWN;
        }
        int had = linear.imageNumber(i);
        linear.setImage(i, v);
        return had;
    }

    public int mapped(int v) {
        if (!frame.isVector(v)) {
            return UNKNOWN;
        }
        frame.spell(v, figures, 0);
        return linear.apply(figures);
    }

    public int map(int a, int t) {
        if (!isSlot(a) || !isSlot(t)) {
            return UNKNOWN;
        }
        linear.applyToSpace(slots[a], made);
        return settle(made, t);
    }

    public int kernel(int t) {
        if (!isSlot(t)) {
            return UNKNOWN;
        }
        linear.columnSpace(other);
        made.becomeDual(other);
        return settle(made, t);
    }

    public int round(int s) {
        if (!isSlot(s)) {
            return UNKNOWN;
        }
        if (roundsDone >= ROUND_LIMIT) {
            return STATE;
        }
        roundsDone++;
        return timesTillAgain(slots[s]);
    }

    // ---- what is told

    public int told(int what) {
        switch (what) {
            case 0:
                return frame.q;
            case 1:
                return frame.n;
            case 2:
                return frame.vectors;
            case 3:
                return heap.size;
            case 4:
                return greedyDone;
            case 5:
                return roundsDone;
            default:
                return OUTSIDE;
        }
    }

    public long digest() {
        long h = fold(fold(DIGEST_START, frame.q), frame.n);
        for (int s = 0; s < SLOTS; s++) {
            h = foldSpace(h, slots[s]);
        }
        for (int i = 0; i < heap.size; i++) {
            h = foldSpace(h, heap.spaces[i]);
        }
        for (int p = 0; p < frame.n; p++) {
            h = fold(h, linear.imageNumber(p));
        }
        return fold(fold(h, greedyDone), roundsDone);
    }

    private static int mostPlaces(int q) {
        switch (q) {
            case 2:
                return 6;
            case 3:
                return 5;
            case 5:
                return 4;
            default:
                return 0;
        }
    }

    private static boolean isSlot(int s) {
        return s >= 0 && s < SLOTS;
    }

    private boolean isDim(int k) {
        return k >= 0 && k <= frame.n;
    }

    private int settle(Space space, int slot) {
        slots[slot].copyFrom(space);
        return space.rank();
    }

    private int timesTillAgain(Space start) {
        // A space that comes again lies where the map can be undone. There each power of the map
        // is a sum of multiples of its first n, so the powers come again before as many steps
        // as there are vectors: going on to the document's bound would find no more.
        int most = Math.min(ROUND_STEPS, frame.vectors);
        other.copyFrom(start);
        for (int step = 1; step <= most; step++) {
            linear.applyToSpace(other, made);
            if (made.rank() < start.rank()) {
                return NONE;
            }
            if (made.sameAs(start)) {
                return step;
            }
            other.copyFrom(made);
        }
        return NONE;
    }

    private static long fold(long h, int x) {
        return 31L * h + x;
    }

    private static long foldSpace(long h, Space space) {
        int rank = space.rank();
        long folded = fold(h, rank);
        for (int i = 0; i < rank; i++) {
            folded = fold(folded, space.rowNumber(i));
        }
        return folded;
    }

    /** The field and how long vectors are. */
    private static final class Frame {
        private int q;
        private int n;
        private int vectors;

        private Frame() {
            become(2, 1);
        }

        private void become(int newQ, int newN) {
            q = newQ;
            n = newN;
            vectors = power(newN);
        }

        private boolean isVector(int v) {
            return v >= 0 && v < vectors;
        }

        private int power(int exponent) {
            int product = 1;
            for (int i = 0; i < exponent; i++) {
                product *= q;
            }
            return product;
        }

        /** The sum of v and k times w. */
        private int sum(int v, int w, int k) {
            int total = 0;
            int worth = 1;
            int restV = v;
            int restW = w;
            for (int p = 0; p < n; p++) {
                total += (restV % q + k * (restW % q)) % q * worth;
                worth *= q;
                restV /= q;
                restW /= q;
            }
            return total;
        }

        private int product(int v, int w) {
            int total = 0;
            int restV = v;
            int restW = w;
            for (int p = 0; p < n; p++) {
                total += (restV % q) * (restW % q);
                restV /= q;
                restW /= q;
            }
            return total % q;
        }

        private void spell(int v, int[] into, int from) {
            int rest = v;
            for (int p = n - 1; p >= 0; p--) {
                into[from + p] = rest % q;
                rest /= q;
            }
        }

        private int vectorNumber(int[] row, int from) {
            int v = 0;
            for (int p = 0; p < n; p++) {
                v = v * q + row[from + p];
            }
            return v;
        }

        private int inverse(int f) {
            // The fourth power of all but 0 is 1 modulo 2, 3 and 5 alike.
            return f * f * f % q;
        }

        private void addMultiple(int[] to, int toFrom, int[] row, int from, int k) {
            for (int p = 0; p < n; p++) {
                to[toFrom + p] = (to[toFrom + p] + k * row[from + p]) % q;
            }
        }

        /** How many spaces of dim part one of dim whole has. */
        private int spaces(int whole, int part) {
            if (part < 0 || part > whole) {
                return 0;
            }
            // Each step leaves the count for one dim more, so every division comes out even.
            int count = 1;
            for (int i = 0; i < part; i++) {
                count = count * (power(whole - i) - 1) / (power(i + 1) - 1);
            }
            return count;
        }
    }

    /** A space by its table; each row stands at the place of its pivot, so they are in order. */
    private static final class Space {
        private final Frame frame;
        private final int[] cells = new int[PLACES * PLACES];
        // The vector that is to be joined, kept so that joining makes no array.
        private final int[] fresh = new int[PLACES];
        // Place 0 has the highest of n bits: so pivots farther to the left make a greater mask.
        private int pivots;

        private Space(Frame frame) {
            this.frame = frame;
        }

        private void becomeZero() {
            pivots = 0;
        }

        private void copyFrom(Space source) {
            pivots = source.pivots;
            System.arraycopy(source.cells, 0, cells, 0, cells.length);
        }

        private int rank() {
            return Integer.bitCount(pivots);
        }

        private boolean isPivot(int p) {
            return (pivots >> (frame.n - 1 - p) & 1) == 1;
        }

        private int rowNumber(int i) {
            int seen = 0;
            for (int p = 0; p < frame.n; p++) {
                if (isPivot(p)) {
                    if (seen == i) {
                        return frame.vectorNumber(cells, p * PLACES);
                    }
                    seen++;
                }
            }
            return NONE;
        }

        private boolean holds(int[] row, int from) {
            // In a space, the figures at the pivots settle all others.
            for (int c = 0; c < frame.n; c++) {
                if (!isPivot(c) && settledFigure(row, from, c) != row[from + c]) {
                    return false;
                }
            }
            return true;
        }

        private int settledFigure(int[] row, int from, int c) {
            int total = 0;
            for (int p = 0; p < c; p++) {
                if (isPivot(p)) {
                    total += row[from + p] * cells[p * PLACES + c];
                }
            }
            return total % frame.q;
        }

        private boolean liesIn(Space wider) {
            for (int p = 0; p < frame.n; p++) {
                if (isPivot(p) && !wider.holds(cells, p * PLACES)) {
                    return false;
                }
            }
            return true;
        }

        private boolean sameAs(Space that) {
            return pivots == that.pivots && liesIn(that);
        }

        private void joinVector(int[] row, int from) {
            System.arraycopy(row, from, fresh, 0, frame.n);
            joinFresh();
        }

        private void joinSpace(Space that) {
            for (int p = 0; p < frame.n; p++) {
                if (that.isPivot(p)) {
                    System.arraycopy(that.cells, p * PLACES, fresh, 0, frame.n);
                    joinFresh();
                }
            }
        }

        private void joinFresh() {
            reduceFresh();
            int place = 0;
            while (place < frame.n && fresh[place] == 0) {
                place++;
            }
            if (place == frame.n) {
                return;
            }
            takeRow(place, frame.inverse(fresh[place]));
            for (int p = 0; p < place; p++) {
                int f = cells[p * PLACES + place];
                if (isPivot(p) && f != 0) {
                    frame.addMultiple(cells, p * PLACES, cells, place * PLACES, frame.q - f);
                }
            }
        }

        private void takeRow(int place, int scale) {
            for (int c = 0; c < frame.n; c++) {
                cells[place * PLACES + c] = scale * fresh[c] % frame.q;
            }
            pivots |= 1 << (frame.n - 1 - place);
        }

        private void reduceFresh() {
            for (int p = 0; p < frame.n; p++) {
                if (fresh[p] != 0 && isPivot(p)) {
                    frame.addMultiple(fresh, 0, cells, p * PLACES, frame.q - fresh[p]);
                }
            }
        }

        /** Becomes the dual of another space. */
        private void becomeDual(Space that) {
            becomeZero();
            for (int free = 0; free < frame.n; free++) {
                if (!that.isPivot(free)) {
                    Arrays.fill(fresh, 0);
                    fresh[free] = 1;
                    for (int p = 0; p < free; p++) {
                        if (that.isPivot(p)) {
                            fresh[p] = (frame.q - that.cells[p * PLACES + free]) % frame.q;
                        }
                    }
                    joinFresh();
                }
            }
        }

        /** How far two other spaces are apart; this space becomes what both make. */
        private int distance(Space a, Space b) {
            copyFrom(a);
            joinSpace(b);
            return 2 * rank() - a.rank() - b.rank();
        }

        private int freeCells(int mask) {
            int free = 0;
            int behind = 0;
            for (int bit = 0; bit < frame.n; bit++) {
                if ((mask >> bit & 1) == 1) {
                    free += behind;
                } else {
                    behind++;
                }
            }
            return free;
        }

        private int ordinal() {
            int rank = rank();
            int before = 0;
            for (int mask = (1 << frame.n) - 1; mask > pivots; mask--) {
                if (Integer.bitCount(mask) == rank) {
                    before += frame.power(freeCells(mask));
                }
            }
            return before + cellsValue();
        }

        private int cellsValue() {
            int value = 0;
            for (int p = 0; p < frame.n; p++) {
                if (isPivot(p)) {
                    for (int c = p + 1; c < frame.n; c++) {
                        if (!isPivot(c)) {
                            value = value * frame.q + cells[p * PLACES + c];
                        }
                    }
                }
            }
            return value;
        }

        /** Becomes space number r of dim k, of which there must be more than r. */
        private void becomeOrdinal(int k, int r) {
            int rest = r;
            for (int mask = (1 << frame.n) - 1; mask >= 0; mask--) {
                if (Integer.bitCount(mask) == k) {
                    int alike = frame.power(freeCells(mask));
                    if (rest < alike) {
                        pivots = mask;
                        fillCells(rest);
                        return;
                    }
                    rest -= alike;
                }
            }
        }

        private void fillCells(int value) {
            int rest = value;
            Arrays.fill(cells, 0);
            for (int p = frame.n - 1; p >= 0; p--) {
                if (isPivot(p)) {
                    cells[p * PLACES + p] = 1;
                    for (int c = frame.n - 1; c > p; c--) {
                        if (!isPivot(c)) {
                            cells[p * PLACES + c] = rest % frame.q;
                            rest /= frame.q;
                        }
                    }
                }
            }
        }
    }

    private static final class Heap {
        private final Space[] spaces = new Space[HEAP_LIMIT];
        private final Space joined;
        private int size;

        private Heap(Frame frame) {
            joined = new Space(frame);
            for (int i = 0; i < HEAP_LIMIT; i++) {
                spaces[i] = new Space(frame);
            }
        }

        private void accept(Space space) {
            if (size < HEAP_LIMIT) {
                spaces[size].copyFrom(space);
                size++;
            }
        }

        private boolean allApart(Space candidate, int d) {
            for (int i = 0; i < size; i++) {
                if (joined.distance(candidate, spaces[i]) < d) {
                    return false;
                }
            }
            return true;
        }

        private int leastDistance() {
            int found = NONE;
            for (int i = 1; i < size; i++) {
                for (int j = 0; j < i; j++) {
                    int distance = joined.distance(spaces[i], spaces[j]);
                    if (found == NONE || distance < found) {
                        found = distance;
                    }
                }
            }
            return found;
        }

        private boolean covers(int[] vector) {
            for (int i = 0; i < size; i++) {
                if (spaces[i].holds(vector, 0)) {
                    return true;
                }
            }
            return false;
        }
    }

    /** The map, by what it makes of each place's own vector. */
    private static final class Linear {
        private final Frame frame;
        private final int[] cells = new int[PLACES * PLACES];
        private final int[] result = new int[PLACES];

        private Linear(Frame frame) {
            this.frame = frame;
            becomeIdentity();
        }

        private void becomeIdentity() {
            Arrays.fill(cells, 0);
            for (int p = 0; p < frame.n; p++) {
                cells[p * PLACES + p] = 1;
            }
        }

        private int imageNumber(int p) {
            return frame.vectorNumber(cells, p * PLACES);
        }

        private void setImage(int p, int v) {
            frame.spell(v, cells, p * PLACES);
        }

        private int apply(int[] vector) {
            applyInto(vector, 0);
            return frame.vectorNumber(result, 0);
        }

        private void applyInto(int[] row, int from) {
            Arrays.fill(result, 0);
            for (int p = 0; p < frame.n; p++) {
                if (row[from + p] != 0) {
                    frame.addMultiple(result, 0, cells, p * PLACES, row[from + p]);
                }
            }
        }

        private void applyToSpace(Space source, Space target) {
            target.becomeZero();
            for (int p = 0; p < frame.n; p++) {
                if (source.isPivot(p)) {
                    applyInto(source.cells, p * PLACES);
                    target.joinVector(result, 0);
                }
            }
        }

        /** What the map makes of a vector is 0 just where its product by each column is. */
        private void columnSpace(Space target) {
            target.becomeZero();
            for (int c = 0; c < frame.n; c++) {
                for (int p = 0; p < frame.n; p++) {
                    result[p] = cells[p * PLACES + c];
                }
                target.joinVector(result, 0);
            }
        }
    }
}
