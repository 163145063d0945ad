import java.math.BigInteger;

/** The sentences that bound values, maps, tries, encodings and digests, and promises 2 to 6. */
final class BoundaryTrieTest {
    private static final Due D = new Due();
    private static final int MAX = Integer.MAX_VALUE;
    private static final int MIN = Integer.MIN_VALUE;

    private BoundaryTrieTest() {
    }

    public static void main(String[] args) {
        valuesAreIntsOtherThanZero();
        zeroTakesTheKeyAway();
        putAnswersTheValueThatItHad();
        aMapHasAtMostSixteenKeys();
        aFullMapTakesValuesForItsOwnKeys();
        aFullMapLosesKeys();
        theEmptyMapHasNoTrie();
        onePathIsALeaf();
        theLongestPathQ();
        pathsThatAreQItself();
        noPathQ();
        theValueOfTheEmptyPath();
        everyChild();
        countedAsOftenAsItIsThere();
        noOtherKind();
        theEncodingOfALeaf();
        theReferencesInABranch();
        theDigestWraps();
        theDigestOfNoWords();
        everySmallMap();
        D.finish();
    }

    private static NibbleTrie map(int... keysAndValues) {
        NibbleTrie x = new NibbleTrie(1);
        for (int i = 0; i < keysAndValues.length; i += 2) {
            x.put(keysAndValues[i], keysAndValues[i + 1]);
        }
        return x;
    }

    private static void counts(String what, NibbleTrie x, int leaves, int extensions, int branches) {
        D.due("count(0) of " + what, x.count(0), leaves);
        D.due("count(1) of " + what, x.count(1), extensions);
        D.due("count(2) of " + what, x.count(2), branches);
    }

    private static void root(String what, NibbleTrie x, long... reference) {
        D.due("root() of " + what, x.root(), Words.digest(reference));
    }

    private static void valuesAreIntsOtherThanZero() {
        D.about("VALUES are ints other than 0");
        for (int value : new int[] {MIN, MIN + 1, -65536, -1, 1, 65535, 65536, MAX - 1, MAX}) {
            NibbleTrie x = map(0x1a, value);
            D.due("get with " + value, x.get(0x1a), value);
            D.due("size() with " + value, x.size(), 1);
            root("a leaf with " + value, x, 0x35, value);
            x.commit(1);
            D.due("at with " + value, x.at(0, 0x1a), value);
            x.prove(0, 0x1a);
            D.due("word(2) with " + value, x.word(2), value);
            D.due("verify of " + value, x.verify(x.rootAt(0), 0x1a, value), true);
            D.due("verify of 0", x.verify(x.rootAt(0), 0x1a, 0), false);
        }
    }

    private static void zeroTakesTheKeyAway() {
        D.about("put: 0 takes the key away");
        NibbleTrie x = map(0x1a, 5, 0x1b, 6);
        D.due("put(0x1a, 0)", x.put(0x1a, 0), 5);
        D.due("size()", x.size(), 1);
        D.due("get(0x1a)", x.get(0x1a), 0);
        D.due("get(0x1b)", x.get(0x1b), 6);
        D.due("put(0x1a, 0) again", x.put(0x1a, 0), 0);
        D.due("size()", x.size(), 1);
        D.due("put(0x1b, 0), the last key", x.put(0x1b, 0), 6);
        D.due("size()", x.size(), 0);
        D.due("put(0x1b, 0) of the empty map", x.put(0x1b, 0), 0);
        D.due("size()", x.size(), 0);
    }

    private static void putAnswersTheValueThatItHad() {
        D.about("put: answers the value that it had (0 for none)");
        NibbleTrie x = new NibbleTrie(1);
        D.due("put(1, MIN)", x.put(1, MIN), 0);
        D.due("put(1, MAX)", x.put(1, MAX), MIN);
        D.due("put(1, MAX) again", x.put(1, MAX), MAX);
        D.due("put(1, -1)", x.put(1, -1), MAX);
        D.due("put(1, 0)", x.put(1, 0), -1);
        D.due("put(1, 3)", x.put(1, 3), 0);
        D.due("get(1)", x.get(1), 3);
    }

    /** The order of the keys is such that they come before, between and behind one another. */
    private static NibbleTrie full() {
        NibbleTrie x = new NibbleTrie(2);
        for (int i = 0; i < 16; i++) {
            D.due("put of key " + i, x.put(0x1a000 + 0x11 * (i * 7 % 16), i + 1), 0);
            D.due("size() with key " + i, x.size(), i + 1);
        }
        return x;
    }

    private static void aMapHasAtMostSixteenKeys() {
        D.about("A MAP has at most 16 keys");
        NibbleTrie x = full();
        long root = x.root();
        for (int key : new int[] {1, 0x10, 0x1a, 0x1a00, 0x1a001, 0x1a0fe, 0x1a100, 0x1ffff}) {
            for (int value : new int[] {MIN, -1, 1, MAX}) {
                D.due("put(" + key + ", " + value + ")", x.put(key, value), 0);
            }
            D.due("get(" + key + ")", x.get(key), 0);
            D.due("size()", x.size(), 16);
            D.due("root()", x.root(), root);
        }
        for (int i = 0; i < 16; i++) {
            D.due("get of key " + i, x.get(0x1a000 + 0x11 * (i * 7 % 16)), i + 1);
        }
    }

    private static void aFullMapTakesValuesForItsOwnKeys() {
        D.about("put: refused when it is not in the map, .. and 16 keys are there");
        NibbleTrie x = full();
        for (int i = 0; i < 16; i++) {
            int key = 0x1a000 + 0x11 * (i * 7 % 16);
            D.due("put(" + key + ", -5)", x.put(key, -5), i + 1);
            D.due("get(" + key + ")", x.get(key), -5);
            D.due("size()", x.size(), 16);
        }
    }

    private static void aFullMapLosesKeys() {
        D.about("put: refused when .. the value is not 0 and 16 keys are there");
        NibbleTrie x = full();
        D.due("put(1, 0) of a key that is not there", x.put(1, 0), 0);
        D.due("size()", x.size(), 16);
        for (int i = 0; i < 16; i++) {
            int key = 0x1a000 + 0x11 * (i * 7 % 16);
            D.due("put(" + key + ", 0)", x.put(key, 0), i + 1);
            D.due("size() with one less", x.size(), 15);
            D.due("put(0x1f, 9) with 15 keys", x.put(0x1f, 9), 0);
            D.due("get(0x1f)", x.get(0x1f), 9);
            D.due("size() when it is full again", x.size(), 16);
            D.due("put of what was taken away", x.put(key, 9), 0);
            D.due("get of what was taken away", x.get(key), 0);
            D.due("put(0x1f, 0)", x.put(0x1f, 0), 9);
            D.due("put of what was taken away", x.put(key, 9), 0);
            D.due("get of what was taken away", x.get(key), 9);
        }
    }

    private static void theEmptyMapHasNoTrie() {
        D.about("THE TRIE of a map over paths, when it is not empty");
        NibbleTrie x = new NibbleTrie(1);
        counts("a new object", x, 0, 0, 0);
        root("a new object", x);
        x.put(0x1a, 1);
        x.put(0x1b, 1);
        x.put(0x1a, 0);
        x.put(0x1b, 0);
        counts("what became empty", x, 0, 0, 0);
        root("what became empty", x);
        D.due("commit(1)", x.commit(1), 0);
        D.due("stored()", x.stored(), 0);
        D.due("rootAt(0)", x.rootAt(0), 0);
    }

    private static void onePathIsALeaf() {
        D.about("a map with one path P and its value v is a LEAF with P and v");
        for (int path : new int[] {1, 0x10, 0x1f, 0x100, 0x1ff, 0x1000, 0x1fff, 0x10000, 0x1ffff}) {
            NibbleTrie x = map(path, 4);
            counts("the path " + path, x, 1, 0, 0);
            root("the path " + path, x, 2L * path + 1, 4);
            D.due("commit(1) of a leaf", x.commit(1), 0);
            D.due("stored() of a leaf", x.stored(), 0);
        }
    }

    private static void theLongestPathQ() {
        D.about("when there is a longest path Q, not empty, with which all its paths begin");
        int[] paths = {0x1f, 0x1f0, 0x1f0f};
        for (int q : paths) {
            NibbleTrie x = map(q << 4, 1, q << 4 | 15, 2);
            counts("two paths below " + q, x, 2, 1, 1);
            long[] branch = Words.branch(0, Words.row(0), Words.leaf(1, 1), Words.row(15), Words.leaf(1, 2));
            root("two paths below " + q, x, 2L * q, Words.digest(branch));
        }
        NibbleTrie x = map(0x1f000, 1, 0x1f00f, 2, 0x1f0f0, 3);
        counts("an extension that gets shorter", x, 3, 1, 2);
        x.put(0x1ff00, 4);
        counts("an extension that gets shorter", x, 4, 1, 3);
        x.put(0x1ff00, 0);
        x.put(0x1f0f0, 0);
        counts("an extension that gets longer", x, 2, 1, 1);
        root("an extension that gets longer", x, 2L * 0x1f00,
                Words.digest(Words.branch(0, Words.row(0), Words.leaf(1, 1), Words.row(15), Words.leaf(1, 2))));
    }

    private static void pathsThatAreQItself() {
        D.about("paths that are Q itself, too");
        for (int q : new int[] {0x10, 0x1f, 0x1ab, 0x1abc}) {
            NibbleTrie x = map(q, 7, q << 4, 8);
            counts(q + " and one below it", x, 1, 1, 1);
            long[] branch = Words.branch(7, Words.row(0), Words.leaf(1, 8));
            root(q + " and one below it", x, 2L * q, Words.digest(branch));
            x.put(q, 0);
            counts("what was below " + q, x, 1, 0, 0);
            root("what was below " + q, x, 2L * (q << 4) + 1, 8);
        }
        NibbleTrie x = map(0x1a, 7, 0x1abc, 8, 0x1abcd, 9);
        counts("Q itself, and an extension below it", x, 1, 2, 2);
        long[] low = Words.branch(8, Words.row(13), Words.leaf(1, 9));
        x.put(0x1a, 0);
        counts("Q itself further down", x, 1, 1, 1);
        root("Q itself further down", x, 2L * 0x1abc, Words.digest(low));
    }

    private static void noPathQ() {
        D.about("Otherwise it is a BRANCH");
        NibbleTrie apart = map(0x10, 1, 0x1f, 2);
        counts("two nibbles", apart, 2, 0, 1);
        NibbleTrie long2 = map(0x10fff, 1, 0x1ffff, 2);
        counts("two long paths that part at once", long2, 2, 0, 1);
        long[] branch = Words.branch(0, Words.row(0), Words.leaf(0x1fff, 1), Words.row(15), Words.leaf(0x1fff, 2));
        root("two long paths that part at once", long2, Words.digest(branch));
        NibbleTrie three = map(0x1a0, 1, 0x1af, 2, 1, 3);
        counts("the empty path above an extension's paths", three, 2, 0, 2);
    }

    private static void theValueOfTheEmptyPath() {
        D.about("it has the value of the empty path (0 when that is not there)");
        for (int value : new int[] {MIN, -1, 1, MAX}) {
            NibbleTrie x = map(1, value, 0x1f, 2);
            counts("the empty path and another", x, 1, 0, 1);
            root("the value " + value, x, Words.digest(Words.branch(value, Words.row(15), Words.leaf(1, 2))));
        }
        NibbleTrie x = map(0x10, 1, 0x1f, 2);
        root("no value", x,
                Words.digest(Words.branch(0, Words.row(0), Words.leaf(1, 1), Words.row(15), Words.leaf(1, 2))));
        x.put(1, 3);
        x.put(0x10, 0);
        x.put(0x1f, 0);
        counts("the empty path alone", x, 1, 0, 0);
        root("the empty path alone", x, 3, 3);
    }

    private static void everyChild() {
        D.about("for every nibble n, when paths begin with n, its child n");
        NibbleTrie x = new NibbleTrie(1);
        long[][] children = new long[32][];
        for (int n = 0; n < 16; n++) {
            x.put(0x1f - n, 30 - n);
            children[2 * n] = Words.row(n);
            children[2 * n + 1] = Words.leaf(1, 15 + n);
        }
        counts("sixteen children", x, 16, 0, 1);
        root("sixteen children", x, Words.digest(Words.branch(0, children)));
        D.due("commit(2)", x.commit(2), 1);
        D.due("prove", x.prove(0, 0x1f), 2 + 49);
        x.put(0x10, 0);
        x.put(1, -9);
        children[1] = new long[0];
        counts("fifteen children and a value", x, 15, 0, 1);
        root("fifteen children and a value", x, Words.digest(Words.branch(-9, children)));
    }

    private static void countedAsOftenAsItIsThere() {
        D.about("count: each counted as often as it is there");
        NibbleTrie x = map(0x1a0c0, 1, 0x1a0c1, 1, 0x1b0c0, 1, 0x1b0c1, 1);
        counts("the same child twice", x, 4, 2, 3);
        D.due("commit(3)", x.commit(3), 2);
        counts("the same child twice, committed", x, 4, 2, 3);
        NibbleTrie leaves = map(0x1a0, 1, 0x1b0, 1, 0x1c0, 1);
        counts("the same leaf three times", leaves, 3, 0, 1);
    }

    private static void noOtherKind() {
        D.about("count: NONE for another kind");
        NibbleTrie x = map(0x1a0, 1, 0x1a1, 1);
        for (int kind : new int[] {MIN, MIN + 1, MIN + 2, -3, -2, -1, 3, 4, 256, 65536, MAX - 1, MAX}) {
            D.due("count(" + kind + ")", x.count(kind), NibbleTrie.NONE);
        }
        counts("two paths", x, 2, 1, 1);
    }

    private static void theEncodingOfALeaf() {
        D.about("The ENCODING of a leaf is two words, 2 * N + 1 with N the number of its path, and its value");
        int[] paths = {1, 0x10, 0x1ffff};
        long[] numbers = {3, 33, 262143};
        for (int i = 0; i < paths.length; i++) {
            NibbleTrie x = map(paths[i], -7);
            x.commit(1);
            D.due("prove", x.prove(0, 1), 3);
            D.due("word(0)", x.word(0), 2);
            D.due("word(1)", x.word(1), numbers[i]);
            D.due("word(2)", x.word(2), -7);
        }
    }

    private static void theReferencesInABranch() {
        D.about("how many words the reference of child n has (0 when there is none) and then these");
        NibbleTrie x = map(0x100, 1, 0x101, 2, 0x17, 3, 0x1f00, 4, 0x1f01, 5, 1, 6);
        long[] zero = Words.branch(0, Words.row(0), Words.leaf(1, 1), Words.row(1), Words.leaf(1, 2));
        long[] last = Words.branch(0, Words.row(0), Words.leaf(1, 4), Words.row(1), Words.leaf(1, 5));
        x.commit(9);
        D.due("prove", x.prove(0, 1), 2 + 16 + 1 + 2 + 2 + 1);
        long[] want = Words.join(Words.row(1, Words.digest(zero)), new long[6], Words.row(2, 3, 3), new long[7],
                Words.row(2, 2L * 0x10, Words.digest(last)), Words.row(6));
        for (int i = 0; i < want.length; i++) {
            D.due("word(" + (2 + i) + ")", x.word(2 + i), want[i]);
        }
    }

    /** The digest in whole numbers that are never negative, as the document tells it. */
    private static long wholeDigest(long... words) {
        BigInteger bound = BigInteger.ONE.shiftLeft(64);
        BigInteger h = BigInteger.valueOf(words.length);
        for (long w : words) {
            h = h.xor(BigInteger.valueOf(w).mod(bound));
            h = h.multiply(new BigInteger("9E3779B97F4A7C15", 16)).mod(bound);
            h = h.xor(h.shiftRight(29));
        }
        return h.longValue();
    }

    private static void theDigestWraps() {
        D.about("(h xor w) * 0x9E3779B97F4A7C15 (wrapping), then h xor (h shifted right by 29 without sign)");
        D.due("root() of {0x1a2b: 100}", map(0x1a2b, 100).root(), 6065429362537495751L);
        D.due("root() of {1: 1}", map(1, 1).root(), 8565556256184883989L);
        D.due("root() of {1: -1}", map(1, -1).root(), -8565556287272232172L);
        D.due("root() of {1: MIN}", map(1, MIN).root(), -42024197107317072L);
        D.due("root() of {1: MAX}", map(1, MAX).root(), 7088053483120688152L);
        D.due("root() of {0x1ffff: 1}", map(0x1ffff, 1).root(), -3500490955890308199L);
        for (int path = 0x10; path < 0x20; path++) {
            for (int value : new int[] {MIN, -path, -1, 1, path, MAX}) {
                D.due("root() of a leaf", map(path, value).root(), wholeDigest(2L * path + 1, value));
            }
            long[] branch = Words.branch(path, Words.row(path - 16), Words.leaf(1, -path));
            NibbleTrie x = map(1, path, path, -path);
            D.due("root() of a branch", x.root(), wholeDigest(wholeDigest(branch)));
            x.commit(2);
            D.due("uses of the branch", x.uses(wholeDigest(branch)), 1);
        }
    }

    private static void theDigestOfNoWords() {
        D.about("The DIGEST of k words is h: at first k");
        D.due("root() of no words", new NibbleTrie(1).root(), 0);
        NibbleTrie x = Forged.with(0);
        D.due("verify under the digest of no words", x.verify(0, 1, 0), true);
        // One word 1: k xor w is 0, so that the digest is 0, too, and only the words' number differs.
        Forged.load(x, 1, 1);
        D.due("verify with a branch missing", x.verify(0, 1, 0), false);
    }

    /** All maps over these paths: the empty path, one path alone, Q itself and below it, and ends. */
    private static void everySmallMap() {
        D.about("THE TRIE of a map");
        int[] paths = {1, 0x10, 0x1f, 0x100, 0x10f, 0x1000, 0x1f00, 0x10000, 0x1000f, 0x1ffff, 0x1fff0};
        for (int map = 0; map < 1 << paths.length; map++) {
            NibbleTrie x = new NibbleTrie(1);
            Model m = new Model(1);
            for (int i = 0; i < paths.length; i++) {
                int value = (map >> i & 1) == 0 ? 0 : 1 + i % 2;
                x.put(paths[i], value);
                m.put(paths[i], value);
            }
            compare("map " + map, paths, x, m);
        }
    }

    private static void compare(String what, int[] paths, NibbleTrie x, Model m) {
        D.due("size() of " + what, x.size(), m.size());
        D.due("root() of " + what, x.root(), m.root());
        counts(what, x, m.count(0), m.count(1), m.count(2));
        int needed = m.commit(99);
        D.due("commit of " + what, x.commit(needed + 1), needed);
        D.due("stored() of " + what, x.stored(), m.stored());
        for (int path : paths) {
            D.due("prove of " + path + " in " + what, x.prove(0, path), m.prove(0, path));
            D.due("last word of " + path + " in " + what, x.word(m.proofWords() - 1), m.word(m.proofWords() - 1));
            D.due("verify of " + path + " in " + what, x.verify(m.rootAt(0), path, m.at(0, path)), true);
        }
    }
}
