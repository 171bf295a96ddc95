import java.math.BigInteger;
import java.util.ArrayList;
import java.util.List;

/** The boundary cases of promises 31 and 32, each sentence by itself, and the 512 calls of an object. */
public final class ToldEdgesTest {
    private static final Due DUE = new Due("ToldEdgesTest");
    private static final Edges EDGES = new Edges(DUE);

    public static void main(String[] args) {
        toldTakes0To5();
        toldOfHeap0To40();
        toldOfGreedy0To10();
        toldOfRound0To60();
        toldChangesNothing();
        digestOfANewObject();
        digestWrapsAsLongs();
        digestMayBeBelow0();
        digestOf0AloneHasNoRows();
        digestHasEachSlot();
        digestOfTheFullHeap();
        digestOfAnEmptiedHeap();
        digestHasTheMapsNVectors();
        digestHasTold4And5();
        digestChangesNothing();
        anObjectAnswers512Calls();
        DUE.end();
    }

    private static void toldTakes0To5() {
        Edges.eachField((q, n) -> {
            SmallSpaces x = Edges.busy(q, n);
            int[] due = {q, n, Edges.power(q, n), 4, 1, 2};
            for (int what = 0; what <= 5; what++) {
                DUE.is("told(" + what + ") over " + q + " of " + n, x.told(what), due[what]);
            }
        });
        for (int what : Edges.beyond(6)) {
            EDGES.refused(5, 3, "told(" + what + ")", Edges.OUTSIDE, x -> x.told(what));
            DUE.is("told(" + what + ") of a new object", new SmallSpaces().told(what), Edges.OUTSIDE);
        }
    }

    private static void toldOfHeap0To40() {
        SmallSpaces x = new SmallSpaces();
        for (int i = 0; i <= 40; i++) {
            DUE.is("told(3) of " + i, x.told(3), i);
            x.put(0);
        }
        DUE.is("told(3) behind FULL", x.told(3), 40);
    }

    private static void toldOfGreedy0To10() {
        SmallSpaces x = new SmallSpaces();
        for (int i = 0; i <= 10; i++) {
            DUE.is("told(4) of " + i, x.told(4), i);
            x.greedy(0, 1);
        }
        DUE.is("told(4) behind STATE", x.told(4), 10);
        DUE.is("told(5) of none", x.told(5), 0);
    }

    private static void toldOfRound0To60() {
        SmallSpaces x = new SmallSpaces();
        for (int i = 0; i <= 60; i++) {
            DUE.is("told(5) of " + i, x.told(5), i);
            x.round(0);
        }
        DUE.is("told(5) behind STATE", x.told(5), 60);
        DUE.is("told(4) of none", x.told(4), 0);
    }

    private static void toldChangesNothing() {
        SmallSpaces x = Edges.busy(3, 4);
        for (int what = 0; what <= 5; what++) {
            x.told(what);
        }
        DUE.is("told: digest()", x.digest(), Edges.busy(3, 4).digest());
    }

    private static void digestOfANewObject() {
        DUE.is("digest() of a new object", new SmallSpaces().digest(),
            Edges.fold(2, 1, 0, 0, 0, 0, 0, 0, 0, 0, 0, 0, 0, 0, 1, 0, 0));
    }

    /** The numbers of an object's digest, asked of it call by call; the map's vectors are told. */
    private static List<Integer> numbers(SmallSpaces x, int... images) {
        List<Integer> numbers = new ArrayList<>(List.of(x.told(0), x.told(1)));
        for (int s = 0; s <= 11; s++) {
            addSpace(numbers, x, s);
        }
        for (int i = 0; i < x.told(3); i++) {
            x.take(11, i);
            addSpace(numbers, x, 11);
        }
        for (int v : images) {
            numbers.add(v);
        }
        numbers.add(x.told(4));
        numbers.add(x.told(5));
        return numbers;
    }

    private static void addSpace(List<Integer> numbers, SmallSpaces x, int s) {
        int dim = x.dim(s);
        numbers.add(dim);
        for (int i = 0; i < dim; i++) {
            numbers.add(x.row(s, i));
        }
    }

    /** The digest as it would be without wrapping. */
    private static BigInteger whole(List<Integer> numbers) {
        BigInteger h = BigInteger.valueOf(167);
        for (int number : numbers) {
            h = h.multiply(BigInteger.valueOf(31)).add(BigInteger.valueOf(number));
        }
        return h;
    }

    private static void digestWrapsAsLongs() {
        Edges.eachField((q, n) -> {
            SmallSpaces x = Edges.fresh(q, n);
            x.add(0, 1);
            x.add(5, Edges.power(q, n) - 1);
            x.greedy(n, 1);
            long got = x.digest();
            int[] images = new int[n];
            for (int i = 0; i < n; i++) {
                images[i] = Edges.unit(q, n, i);
            }
            BigInteger whole = whole(numbers(x, images));
            DUE.holds("digest() is beyond longs", whole.bitLength() > 64);
            DUE.is("digest() wraps", got, whole.longValue());
        });
    }

    private static void digestMayBeBelow0() {
        int below = 0;
        int above = 0;
        SmallSpaces x = Edges.fresh(5, 4);
        for (int v = 0; v < 100; v++) {
            x.image(3, v);
            long due = Edges.fold(5, 4, 0, 0, 0, 0, 0, 0, 0, 0, 0, 0, 0, 0, 125, 25, 5, v, 0, 0);
            DUE.is("digest() with image " + v, x.digest(), due);
        }
        for (int i = 0; i <= 60; i++) {
            SmallSpaces y = Edges.fresh(5, 4);
            y.add(0, 1 + i);
            long digest = y.digest();
            below += digest < 0 ? 1 : 0;
            above += digest >= 0 ? 1 : 0;
            DUE.is("digest() with a line", digest,
                Edges.fold(5, 4, 1, y.row(0, 0), 0, 0, 0, 0, 0, 0, 0, 0, 0, 0, 0, 125, 25, 5, 1, 0, 0));
        }
        DUE.holds("some digests are below 0", below > 0);
        DUE.holds("some digests are not below 0", above > 0);
    }

    private static void digestOf0AloneHasNoRows() {
        SmallSpaces x = Edges.fresh(3, 2);
        Edges.fill(x, 4);
        DUE.is("digest() with all in slot 4", x.digest(),
            Edges.fold(3, 2, 0, 0, 0, 0, 2, 3, 1, 0, 0, 0, 0, 0, 0, 0, 3, 1, 0, 0));
        x.clear(4);
        DUE.is("digest() with slot 4 cleared", x.digest(),
            Edges.fold(3, 2, 0, 0, 0, 0, 0, 0, 0, 0, 0, 0, 0, 0, 3, 1, 0, 0));
        x.put(4);
        DUE.is("digest() with 0 in the heap", x.digest(),
            Edges.fold(3, 2, 0, 0, 0, 0, 0, 0, 0, 0, 0, 0, 0, 0, 0, 3, 1, 0, 0));
    }

    private static void digestHasEachSlot() {
        for (int s = 0; s <= 11; s++) {
            SmallSpaces x = Edges.fresh(3, 2);
            x.add(s, 5);
            long[] due = new long[19];
            due[0] = 3;
            due[1] = 2;
            due[2 + s] = 1;
            due[3 + s] = 5;
            due[15] = 3;
            due[16] = 1;
            DUE.is("digest() with a line in slot " + s, x.digest(), Edges.fold(due));
        }
    }

    private static void digestOfTheFullHeap() {
        SmallSpaces x = Edges.fresh(2, 6);
        for (int s = 0; s <= 11; s++) {
            Edges.fill(x, s);
        }
        for (int i = 0; i < 40; i++) {
            x.put(i % 12);
        }
        long got = x.digest();
        List<Integer> due = new ArrayList<>(List.of(2, 6));
        for (int i = 0; i < 12 + 40; i++) {
            due.addAll(List.of(6, 32, 16, 8, 4, 2, 1));
        }
        due.addAll(List.of(32, 16, 8, 4, 2, 1, 0, 0));
        DUE.is("digest() of all that can be", got, whole(due).longValue());
        DUE.is("digest() of all that can be, again", x.digest(), got);
    }

    private static void digestOfAnEmptiedHeap() {
        SmallSpaces x = Edges.fresh(3, 2);
        long before = x.digest();
        for (int i = 0; i < 40; i++) {
            x.put(0);
        }
        DUE.holds("digest() has the heap", x.digest() != before);
        x.empty();
        DUE.is("digest() of an emptied heap", x.digest(), before);
    }

    private static void digestHasTheMapsNVectors() {
        SmallSpaces x = Edges.fresh(2, 6);
        for (int i = 0; i < 6; i++) {
            x.image(i, 63 - i);
        }
        DUE.is("digest() of 6 places", x.digest(),
            Edges.fold(2, 6, 0, 0, 0, 0, 0, 0, 0, 0, 0, 0, 0, 0, 63, 62, 61, 60, 59, 58, 0, 0));
        x.field(2, 1);
        DUE.is("digest() of 1 place", x.digest(), Edges.fold(2, 1, 0, 0, 0, 0, 0, 0, 0, 0, 0, 0, 0, 0, 1, 0, 0));
    }

    private static void digestHasTold4And5() {
        SmallSpaces x = new SmallSpaces();
        for (int i = 0; i < 11; i++) {
            x.greedy(0, 1);
        }
        x.empty();
        for (int i = 0; i < 61; i++) {
            x.round(0);
        }
        DUE.is("digest() with both done to the end", x.digest(),
            Edges.fold(2, 1, 0, 0, 0, 0, 0, 0, 0, 0, 0, 0, 0, 0, 1, 10, 60));
    }

    private static void digestChangesNothing() {
        SmallSpaces x = Edges.busy(3, 3);
        long first = x.digest();
        for (int i = 0; i < 5; i++) {
            DUE.is("digest(), again", x.digest(), first);
        }
    }

    private static void anObjectAnswers512Calls() {
        SmallSpaces x = new SmallSpaces();
        DUE.is("call 1", x.field(5, 4), 625);
        for (int i = 2; i <= 510; i++) {
            DUE.is("call " + i, x.numbered(i % 12, 2, i), 2);
        }
        DUE.is("call 511", x.number(510 % 12), 510);
        SmallSpaces twin = Edges.fresh(5, 4);
        for (int i = 499; i <= 510; i++) {
            twin.numbered(i % 12, 2, i);
        }
        DUE.is("call 512", x.digest(), twin.digest());
    }
}
