import java.util.ArrayList;
import java.util.List;

/** The sentences of the document that bound the paths and their numbers, in every call with a key. */
final class BoundaryKeysTest {
    private static final Due D = new Due();
    private static final int[][] RANGES = {{1, 1}, {16, 31}, {256, 511}, {4096, 8191}, {65536, 131071}};
    // So many numbers are asked of one object that it gets no more than 512 calls.
    private static final int NUMBERS_FOR_ONE = 90;

    private BoundaryKeysTest() {
    }

    public static void main(String[] args) {
        pathsHaveNoneToFourNibbles();
        nibblesAreNoneToFifteen();
        theNumberOfAPath();
        everyNumberInPut();
        everyNumberInGet();
        everyNumberInAt();
        everyNumberInProve();
        everyNumberInVerify();
        D.finish();
    }

    private static boolean isPath(int number) {
        for (int[] range : RANGES) {
            if (number >= range[0] && number <= range[1]) {
                return true;
            }
        }
        return false;
    }

    /** All numbers around the paths' ones, and far ones that are like a path's in their lower bits. */
    private static List<int[]> numbers() {
        List<Integer> all = new ArrayList<>();
        for (int number = -40; number < 132000; number++) {
            all.add(number);
        }
        for (int bit = 17; bit < 32; bit++) {
            for (int low : new int[] {-1, 0, 1, 16, 31, 256, 511, 4096, 8191, 65536, 131071}) {
                all.add((1 << bit) + low);
            }
        }
        for (int[] range : RANGES) {
            all.add(-range[0]);
            all.add(-range[1]);
            all.add(~range[0]);
        }
        return parts(all);
    }

    private static List<int[]> parts(List<Integer> all) {
        List<int[]> parts = new ArrayList<>();
        for (int from = 0; from < all.size(); from += NUMBERS_FOR_ONE) {
            int end = Math.min(all.size(), from + NUMBERS_FOR_ONE);
            parts.add(all.subList(from, end).stream().mapToInt(Integer::intValue).toArray());
        }
        return parts;
    }

    private static void pathsHaveNoneToFourNibbles() {
        D.about("PATHS are rows of 0 to 4 nibbles");
        NibbleTrie x = new NibbleTrie(1);
        int[] zeros = {1, 0x10, 0x100, 0x1000, 0x10000};
        for (int i = 0; i < zeros.length; i++) {
            D.due("put of " + i + " nibbles", x.put(zeros[i], 10 + i), 0);
        }
        D.due("put of 5 nibbles", x.put(0x100000, 15), 0);
        D.due("size()", x.size(), 5);
        x.commit(9);
        for (int i = 0; i < zeros.length; i++) {
            D.due("get of " + i + " nibbles", x.get(zeros[i]), 10 + i);
            D.due("at of " + i + " nibbles", x.at(0, zeros[i]), 10 + i);
            x.prove(0, zeros[i]);
            D.due("verify of " + i + " nibbles", x.verify(x.rootAt(0), zeros[i], 10 + i), true);
        }
        D.due("get of 5 nibbles", x.get(0x100000), 0);
        D.due("count(2)", x.count(2), 4);
        D.due("count(0)", x.count(0), 1);
    }

    private static void nibblesAreNoneToFifteen() {
        D.about("nibbles (0 .. 15)");
        for (int place = 0; place < 4; place++) {
            NibbleTrie x = new NibbleTrie(1);
            for (int nibble = 0; nibble < 16; nibble++) {
                x.put(0x18888 ^ (8 ^ nibble) << 4 * place, nibble + 1);
            }
            x.commit(9);
            for (int nibble = 0; nibble < 16; nibble++) {
                int key = 0x18888 ^ (8 ^ nibble) << 4 * place;
                D.due("get(" + key + ")", x.get(key), nibble + 1);
                x.prove(0, key);
                D.due("verify of " + key, x.verify(x.rootAt(0), key, nibble + 1), true);
            }
            D.due("count(0)", x.count(0), 16);
            D.due("count(2)", x.count(2), 1);
        }
    }

    private static void theNumberOfAPath() {
        D.about("1 for the empty path, 0x1a5 for 10, 5");
        NibbleTrie x = new NibbleTrie(1);
        x.put(0x1a5, 9);
        long[] leaf = Words.leaf(0x1a5, 9);
        D.due("root() of 10, 5", x.root(), Words.digest(leaf));
        x.put(1, 8);
        long[] branch = Words.branch(8, Words.row(10), Words.leaf(0x15, 9));
        D.due("root() with the empty path", x.root(), Words.digest(Words.digest(branch)));
    }

    private static void everyNumberInPut() {
        D.about("put: 0, refused, when key is no path's number");
        for (int[] part : numbers()) {
            NibbleTrie x = new NibbleTrie(1);
            for (int key : part) {
                D.due("put(" + key + ", 7)", x.put(key, 7), 0);
                D.due("size() after put(" + key + ", 7)", x.size(), isPath(key) ? 1 : 0);
                D.due("put(" + key + ", 0)", x.put(key, 0), isPath(key) ? 7 : 0);
                D.due("size() after put(" + key + ", 0)", x.size(), 0);
            }
        }
    }

    /** The keys are as near as can be to each number that is asked for. */
    private static NibbleTrie withEdges() {
        NibbleTrie x = new NibbleTrie(1);
        for (int[] range : RANGES) {
            x.put(range[0], range[0]);
            x.put(range[1], range[1]);
        }
        x.commit(99);
        return x;
    }

    private static int valueOfEdge(int number) {
        for (int[] range : RANGES) {
            if (number == range[0] || number == range[1]) {
                return number;
            }
        }
        return 0;
    }

    private static void everyNumberInGet() {
        D.about("get: 0 when there is none or key is no path's number");
        for (int[] part : numbers()) {
            NibbleTrie x = withEdges();
            for (int key : part) {
                D.due("get(" + key + ")", x.get(key), valueOfEdge(key));
            }
        }
    }

    private static void everyNumberInAt() {
        D.about("at: 0 when there is none, key is no path's number");
        for (int[] part : numbers()) {
            NibbleTrie x = withEdges();
            for (int key : part) {
                D.due("at(0, " + key + ")", x.at(0, key), valueOfEdge(key));
            }
        }
    }

    private static void everyNumberInProve() {
        D.about("prove: NONE, refused, when key is no path's number");
        for (int[] part : numbers()) {
            NibbleTrie x = new NibbleTrie(1);
            x.commit(1);
            for (int key : part) {
                D.due("prove(0, " + key + ")", x.prove(0, key), isPath(key) ? 1 : -1);
            }
        }
    }

    /** The proof of the empty map shows 0 for every key, so only what is no key is refused. */
    private static void everyNumberInVerify() {
        D.about("verify: false when key is no path's number");
        for (int[] part : numbers()) {
            NibbleTrie x = new NibbleTrie(1);
            x.commit(1);
            x.prove(0, 1);
            for (int key : part) {
                D.due("verify(0, " + key + ", 0)", x.verify(0, key, 0), isPath(key));
            }
        }
    }
}
