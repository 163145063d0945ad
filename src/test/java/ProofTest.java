/** Promises 14 to 18: proofs, their words, and what they show. */
final class ProofTest {
    private static final Due D = new Due();
    private static final int MAX = Integer.MAX_VALUE;
    private static final int MIN = Integer.MIN_VALUE;

    private ProofTest() {
    }

    public static void main(String[] args) {
        promise14Prove();
        promise14Refused();
        promise14LongestProofs();
        promise15Word();
        promise16Alter();
        promise17Cut();
        promise18EveryKeyOfAVersion();
        promise18EveryChangedWord();
        promise18EveryCut();
        promise18WrongQuestions();
        promise18TopReference();
        promise18Pairs();
        promise18Branches();
        promise18LongWays();
        D.finish();
    }

    /** The version {a: 1, a2b: 2, a2c: 3, a2b0: 4, f: 5} in whose trie four branches lie on one way. */
    private static NibbleTrie sample() {
        NibbleTrie x = new NibbleTrie(2);
        x.put(0x1a, 1);
        x.put(0x1a2b, 2);
        x.put(0x1a2c, 3);
        x.put(0x1a2b0, 4);
        x.put(0x1f, 5);
        x.commit(9);
        return x;
    }

    private static void promise14Prove() {
        D.about("promise 14, prove");
        long[] low = Words.branch(2, Words.row(0), Words.leaf(1, 4));
        long[] middle = Words.branch(0, Words.row(0xb), Words.row(Words.digest(low)), Words.row(0xc), Words.leaf(1, 3));
        long[] high = Words.branch(1, Words.row(2), Words.row(Words.digest(middle)));
        long[] top = Words.branch(0, Words.row(0xa), Words.row(Words.digest(high)), Words.row(0xf), Words.leaf(1, 5));
        long[] reference = Words.row(Words.digest(top));
        NibbleTrie x = sample();
        proves(x, 0x1a2b0, Words.proof(reference, top, high, middle, low));
        proves(x, 0x1a2b1, Words.proof(reference, top, high, middle, low));
        proves(x, 0x1a2b, Words.proof(reference, top, high, middle, low));
        proves(x, 0x1a2c, Words.proof(reference, top, high, middle));
        proves(x, 0x1a2, Words.proof(reference, top, high, middle));
        proves(x, 0x1a3, Words.proof(reference, top, high));
        proves(x, 0x1a, Words.proof(reference, top, high));
        proves(x, 0x1f, Words.proof(reference, top));
        proves(x, 1, Words.proof(reference, top));
        x.put(0x1a, 0);
        x.put(0x1f, 0);
        x.commit(9);
        proves(x, 0x1a2b0, Words.proof(Words.extension(0x1a2, middle), middle, low));
        proves(x, 0x1a2, Words.proof(Words.extension(0x1a2, middle), middle));
        proves(x, 0x1a, Words.proof(Words.extension(0x1a2, middle)));
        proves(x, 0x1b, Words.proof(Words.extension(0x1a2, middle)));
        D.due("prove(1, 1)", x.prove(1, 1), 2 + top.length);
        x.put(0x1a2b, 0);
        x.put(0x1a2c, 0);
        x.commit(9);
        proves(x, 0x1b, Words.proof(Words.leaf(0x1a2b0, 4)));
        x.put(0x1a2b0, 0);
        x.commit(9);
        proves(x, 0x1b, Words.row(0));
    }

    private static void proves(NibbleTrie x, int key, long[] want) {
        String call = "prove(0, " + Integer.toHexString(key) + ")";
        D.due(call, x.prove(0, key), want.length);
        for (int i = 0; i < want.length; i++) {
            D.due("word(" + i + ") after " + call, x.word(i), want[i]);
        }
        D.due("word behind the end after " + call, x.word(want.length), 0);
    }

    private static void promise14Refused() {
        D.about("promise 14, refused");
        NibbleTrie x = sample();
        int words = x.prove(0, 0x1f);
        x.alter(0, 12);
        for (int k : new int[] {MIN, -1, 1, 2, MAX}) {
            D.due("prove(" + k + ", 1)", x.prove(k, 1), -1);
        }
        for (int key : new int[] {MIN, -1, 0, 2, 15, 32, 255, 512, 4095, 8192, 65535, 131072, MAX}) {
            D.due("prove(0, " + key + ")", x.prove(0, key), -1);
        }
        D.due("word(0), nothing changed", x.word(0), 12);
        D.due("cut(), nothing changed", x.cut(), words - 1);
    }

    private static void promise14LongestProofs() {
        D.about("promise 14, long proofs");
        NibbleTrie x = longProof();
        D.due("prove(0, 0x10000)", x.prove(0, 0x10000), 2 + 4 * 17 + 16 * 2 + 3);
        D.due("verify", x.verify(x.rootAt(0), 0x10000, 0x10000), true);
    }

    private static void promise15Word() {
        D.about("promise 15, word");
        NibbleTrie x = sample();
        int words = x.prove(0, 0x1f);
        D.due("word(0)", x.word(0), 1);
        D.due("word of the leaf", x.word(words - 2), 5);
        for (int i : new int[] {MIN, -1, words, words + 1, 1000, MAX}) {
            D.due("word(" + i + ")", x.word(i), 0);
        }
        x.prove(0, 0x1a2b0);
        x.prove(0, 0x1f);
        D.due("word behind a shorter proof", x.word(words + 3), 0);
        x.alter(words - 1, 6);
        x.cut();
        D.due("word that was cut", x.word(words - 1), 0);
    }

    private static void promise16Alter() {
        D.about("promise 16, alter");
        NibbleTrie x = sample();
        int words = x.prove(0, 0x1f);
        for (int i : new int[] {MIN, -1, words, words + 1, 1000, MAX}) {
            D.due("alter(" + i + ", 1)", x.alter(i, 1), false);
        }
        D.due("alter(first)", x.alter(0, Long.MIN_VALUE), true);
        D.due("alter(last)", x.alter(words - 1, Long.MAX_VALUE), true);
        D.due("word(first)", x.word(0), Long.MIN_VALUE);
        D.due("word(last)", x.word(words - 1), Long.MAX_VALUE);
        D.due("word(1)", x.word(2), 0);
        x.cut();
        D.due("alter of what was cut", x.alter(words - 1, 1), false);
        x.prove(0, 0x1f);
        D.due("word(first) of a new proof", x.word(0), 1);
        D.due("word(last) of a new proof", x.word(words - 1), 0);
        D.due("rootAt(0)", x.rootAt(0), Words.digest(x.word(1)));
    }

    private static void promise17Cut() {
        D.about("promise 17, cut");
        NibbleTrie x = sample();
        D.due("cut() without a proof", x.cut(), 0);
        int words = x.prove(0, 0x1f);
        for (int left = words - 1; left >= 0; left--) {
            long before = x.word(0);
            D.due("cut()", x.cut(), left);
            D.due("word(0)", x.word(0), left > 0 ? before : 0);
            D.due("word(left)", x.word(left), 0);
        }
        D.due("cut() of nothing", x.cut(), 0);
        D.due("cut() of nothing", x.cut(), 0);
        D.due("prove again", x.prove(0, 0x1f), words);
    }

    private static final int[] ASKED = {
        1, 0x1a, 0x1a2, 0x1a2b, 0x1a2b0, 0x1a2b1, 0x1a2c, 0x1a2c0, 0x1a3, 0x1f, 0x1f0, 0x10, 0x1e000
    };

    private static void promise18EveryKeyOfAVersion() {
        D.about("promise 18, true proofs");
        NibbleTrie x = sample();
        x.put(0x1a, 0);
        x.put(0x1f, 0);
        x.commit(9);
        for (int k = 0; k < 2; k++) {
            for (int key : ASKED) {
                x.prove(k, key);
                int value = x.at(k, key);
                D.due("verify " + Integer.toHexString(key), x.verify(x.rootAt(k), key, value), true);
                D.due("verify another value", x.verify(x.rootAt(k), key, value + 1), false);
                D.due("verify none", x.verify(x.rootAt(k), key, 0), value == 0);
                D.due("verify another root", x.verify(x.rootAt(1 - k), key, value), false);
                D.due("verify again", x.verify(x.rootAt(k), key, value), true);
            }
        }
    }

    private static void promise18EveryChangedWord() {
        D.about("promise 18, a word changed");
        NibbleTrie x = sample();
        int words = x.prove(0, 0x1a2b0);
        for (int i = 0; i < words; i++) {
            long before = x.word(i);
            for (long w : new long[] {before + 1, before - 1, before ^ Long.MIN_VALUE, before + (1L << 32)}) {
                x.alter(i, w);
                D.due("verify with word " + i + " changed", x.verify(x.rootAt(0), 0x1a2b0, 4), false);
                D.due("verify none with word " + i + " changed", x.verify(x.rootAt(0), 0x1a2b0, 0), false);
            }
            x.alter(i, before);
        }
        D.due("verify", x.verify(x.rootAt(0), 0x1a2b0, 4), true);
    }

    private static void promise18EveryCut() {
        D.about("promise 18, words cut");
        NibbleTrie x = sample();
        int words = x.prove(0, 0x1a2b0);
        for (int left = words - 1; left >= 0; left--) {
            x.cut();
            D.due("verify with " + left + " words", x.verify(x.rootAt(0), 0x1a2b0, 4), false);
            D.due("verify none with " + left + " words", x.verify(x.rootAt(0), 0x1a2b0, 0), false);
        }
        D.due("verify(0, 1, 0) with no words", x.verify(0, 1, 0), false);
    }

    private static void promise18WrongQuestions() {
        D.about("promise 18, wrong questions");
        NibbleTrie x = sample();
        x.prove(0, 0x1f);
        for (int key : new int[] {MIN, -1, 0, 2, 15, 32, 255, 512, 4095, 8192, 65535, 131072, MAX}) {
            D.due("verify of " + key, x.verify(x.rootAt(0), key, 0), false);
        }
        D.due("verify of a key on the same way", x.verify(x.rootAt(0), 0x1e, 0), true);
        D.due("verify of a key below the leaf", x.verify(x.rootAt(0), 0x1f0, 0), true);
        D.due("verify of a key on a longer way", x.verify(x.rootAt(0), 0x1a, 1), false);
        D.due("verify of the empty path", x.verify(x.rootAt(0), 1, 0), true);
        x.prove(0, 0x1a2b0);
        D.due("verify with words left over", x.verify(x.rootAt(0), 0x1a2, 0), false);
        D.due("verify with words left over", x.verify(x.rootAt(0), 0x1f, 5), false);
        D.due("verify of a key on the same way", x.verify(x.rootAt(0), 0x1a2b, 2), true);
        D.due("verify of a key on the same way", x.verify(x.rootAt(0), 0x1a2bf, 0), true);
    }

    /** An object whose proof is that row of words. */
    private static NibbleTrie with(long[] words) {
        NibbleTrie x = sample();
        int many = x.prove(0, 0x1a2b0);
        for (int i = 0; i < words.length; i++) {
            D.due("alter(" + i + ")", x.alter(i, words[i]), true);
        }
        for (int i = words.length; i < many; i++) {
            x.cut();
        }
        return x;
    }

    private static void shows(String what, long[] reference, long[] rest, int key, long value) {
        NibbleTrie x = with(Words.join(Words.row(reference.length), reference, rest));
        long root = Words.digest(reference);
        for (int v : new int[] {0, 1, 5, 6, -1, MIN}) {
            D.due(what + ", verify " + v, x.verify(root, key, v), v == value);
        }
    }

    private static void refuses(String what, long[] reference, long[] rest, int key) {
        // A value that is no int stands for none of those that can be asked for.
        shows(what, reference, rest, key, Long.MAX_VALUE);
    }

    private static void promise18TopReference() {
        D.about("promise 18, the first words");
        long[] nothing = {};
        shows("no words", nothing, nothing, 0x1a, 0);
        refuses("a word left", nothing, Words.row(0), 0x1a);
        for (long r : new long[] {3, 4, -1, MIN, 1L << 32, Long.MIN_VALUE, Long.MAX_VALUE}) {
            NibbleTrie x = with(Words.join(Words.row(r), Words.leaf(0x1a, 5), Words.row(0)));
            D.due("first word " + r, x.verify(0, 0x1a, 0), false);
            D.due("first word " + r, x.verify(Words.digest(Words.leaf(0x1a, 5)), 0x1a, 5), false);
            D.due("first word " + r, x.verify(Words.digest(2L * 0x1a + 1, 5, 0), 0x1a, 5), false);
        }
        NibbleTrie x = with(Words.row(2, 2L * 0x1a + 1));
        D.due("a word missing", x.verify(Words.digest(2L * 0x1a + 1), 0x1a, 0), false);
        D.due("a word missing", x.verify(Words.digest(2L * 0x1a + 1, 0), 0x1a, 0), false);
    }

    private static void promise18Pairs() {
        D.about("promise 18, two words");
        long[] nothing = {};
        shows("leaf", Words.leaf(0x1a, 5), nothing, 0x1a, 5);
        shows("leaf of another path", Words.leaf(0x1a, 5), nothing, 0x1b, 0);
        shows("leaf of a longer path", Words.leaf(0x1a0, 5), nothing, 0x1a, 0);
        shows("leaf of a shorter path", Words.leaf(0x1a, 5), nothing, 0x1a0, 0);
        shows("leaf of the empty path", Words.leaf(1, 6), nothing, 1, 6);
        shows("leaf with the value 0", Words.leaf(0x1a, 0), nothing, 0x1a, 0);
        shows("leaf with a negative value", Words.leaf(0x1a, MIN), nothing, 0x1a, MIN);
        shows("leaf with no int", Words.leaf(0x1a, 5 + (1L << 32)), nothing, 0x1a, 5 + (1L << 32));
        shows("leaf with no int", Words.leaf(0x1a, 0xffffffffL), nothing, 0x1a, 0xffffffffL);
        refuses("leaf and a word left", Words.leaf(0x1a, 5), Words.row(0), 0x1a);
        refuses("leaf of another path and a word left", Words.leaf(0x1a, 5), Words.row(0), 0x1b);
        for (long number : new long[] {0, 2, 15, 32, 255, 512, 4095, 8192, 65535, 131072, -1, -16,
            (1L << 32) + 0x1a, (1L << 62) + 0x1a, Long.MIN_VALUE >> 1}) {
            refuses("leaf with number " + number, Words.row(2 * number + 1, 5), nothing, 0x1a);
            refuses("extension with number " + number, Words.row(2 * number, 5), nothing, 0x1a);
        }
        refuses("extension with the empty path", Words.row(2, 5), nothing, 0x1a);
        long[] branch = Words.branch(6, Words.row(0), Words.leaf(1, 5));
        refuses("extension with the empty path", Words.extension(1, branch), branch, 1);
        refuses("extension with the empty path", Words.extension(1, branch), branch, 0x10);
        shows("extension of another path", Words.extension(0x1a, branch), nothing, 0x1b, 0);
        shows("extension of a longer path", Words.extension(0x1ab, branch), nothing, 0x1a, 0);
        shows("extension and the empty path", Words.extension(0x1ab, branch), nothing, 1, 0);
        refuses("extension of another path, a branch left", Words.extension(0x1a, branch), branch, 0x1b);
        shows("extension of the path", Words.extension(0x1a, branch), branch, 0x1a, 6);
        shows("extension of its front", Words.extension(0x1a, branch), branch, 0x1a0, 5);
        shows("extension of its front", Words.extension(0x1a, branch), branch, 0x1a1, 0);
        shows("extension of four nibbles", Words.extension(0x1abcd, branch), branch, 0x1abcd, 6);
        refuses("extension without its branch", Words.extension(0x1a, branch), nothing, 0x1a);
    }

    private static void promise18Branches() {
        D.about("promise 18, branches");
        long[] branch = Words.branch(6, Words.row(3), Words.leaf(1, 5), Words.row(15), Words.leaf(0x11, -1));
        long[] reference = Words.row(Words.digest(branch));
        shows("its value", reference, branch, 1, 6);
        shows("its child", reference, branch, 0x13, 5);
        shows("its last child", reference, branch, 0x1f1, -1);
        shows("another path in its last child", reference, branch, 0x1f, 0);
        shows("no child", reference, branch, 0x10, 0);
        shows("no child", reference, branch, 0x1e000, 0);
        refuses("a word left", reference, Words.join(branch, Words.row(0)), 1);
        refuses("a word left", reference, Words.join(branch, Words.row(0)), 0x13);
        refuses("a word left", reference, Words.join(branch, Words.row(0)), 0x10);
        refuses("another digest", Words.row(Words.digest(branch) + 1), branch, 1);
        refuses("another digest", Words.row(Words.digest(branch) + 1), branch, 0x10);
        for (int many = 0; many < branch.length; many++) {
            long[] front = java.util.Arrays.copyOf(branch, many);
            refuses("only " + many + " words", Words.row(Words.digest(front)), front, 1);
            refuses("only " + many + " words", Words.row(Words.digest(front)), front, 0x10);
        }
        for (long c : new long[] {3, -1, 4, MIN, 1L << 32, Long.MIN_VALUE, Long.MAX_VALUE}) {
            long[] wide = Words.join(Words.row(c, 1, 2, 3), new long[15], Words.row(6));
            refuses("a count of " + c, Words.row(Words.digest(wide)), wide, 1);
            long[] last = Words.join(new long[15], Words.row(c, 1, 2, 3, 6));
            refuses("a last count of " + c, Words.row(Words.digest(last)), last, 1);
            long[] bare = Words.join(new long[7], Words.row(c), new long[8], Words.row(6));
            refuses("a bare count of " + c, Words.row(Words.digest(bare)), bare, 1);
        }
        shows("an empty branch", Words.row(Words.digest(new long[17])), new long[17], 0x1a, 0);
        long[] big = Words.branch(6 + (1L << 32));
        shows("a value that is no int", Words.row(Words.digest(big)), big, 1, 6 + (1L << 32));
    }

    private static void promise18LongWays() {
        D.about("promise 18, long ways");
        long[] fifth = Words.branch(6);
        long[] fourth = Words.branch(1, Words.row(4), Words.row(Words.digest(fifth)));
        long[] third = Words.branch(1, Words.row(3), Words.row(Words.digest(fourth)));
        long[] second = Words.branch(1, Words.row(2), Words.row(Words.digest(third)));
        long[] first = Words.branch(1, Words.row(1), Words.row(Words.digest(second)));
        long[] all = Words.join(first, second, third, fourth, fifth);
        NibbleTrie x = longProof();
        load(x, Words.join(Words.row(1, Words.digest(first)), all));
        D.due("five branches", x.verify(Words.digest(Words.digest(first)), 0x11234, 6), true);
        D.due("five branches", x.verify(Words.digest(Words.digest(first)), 0x11234, 1), false);
        D.due("too many branches", x.verify(Words.digest(Words.digest(first)), 0x1123, 1), false);
        load(x, Words.join(Words.row(1, Words.digest(first)), first, second, third, fourth));
        D.due("four branches", x.verify(Words.digest(Words.digest(first)), 0x1123, 1), true);
        D.due("a branch missing", x.verify(Words.digest(Words.digest(first)), 0x11234, 0), false);
        extensionsBelowBranches();
        longPathInALeaf();
    }

    /** Extensions may follow each branch, and a forged one may ask for more than is left. */
    private static void extensionsBelowBranches() {
        long[] low = Words.branch(6, Words.row(0), Words.extension(0x1f, Words.branch(1)));
        long[] top = Words.branch(1, Words.row(0xa), Words.extension(0x1bc, low));
        long[] reference = Words.extension(0x1d, top);
        NibbleTrie x = longProof();
        load(x, Words.join(Words.row(2), reference, top, low));
        long root = Words.digest(reference);
        D.due("two extensions", x.verify(root, 0x1dabc, 6), true);
        D.due("the second not on the way", x.verify(root, 0x1dab, 0), false);
        load(x, Words.join(Words.row(2), reference, top));
        D.due("the second not on the way", x.verify(root, 0x1dab, 0), true);
        D.due("the second not on the way", x.verify(root, 0x1dacc, 0), true);
        D.due("a branch missing", x.verify(root, 0x1dabc, 0), false);
        long[] deep = Words.branch(0, Words.row(0xc), Words.extension(0x1f, Words.branch(1)));
        long[] way = Words.extension(0x1dab, deep);
        load(x, Words.join(Words.row(2), way, deep));
        D.due("an extension behind the end", x.verify(Words.digest(way), 0x1dabc, 0), true);
        D.due("an extension behind the end", x.verify(Words.digest(way), 0x1dabc, 1), false);
    }

    private static void longPathInALeaf() {
        long[] top = Words.branch(0, Words.row(0xa), Words.leaf(0x1abcd, 6));
        NibbleTrie x = longProof();
        load(x, Words.join(Words.row(1, Words.digest(top)), top));
        D.due("a leaf too long", x.verify(Words.digest(Words.digest(top)), 0x1aabc, 0), true);
        D.due("a leaf too long", x.verify(Words.digest(Words.digest(top)), 0x1abcd, 6), false);
    }

    /** Four branches lie on the way of 0x10000, as full as sixteen keys allow. */
    private static NibbleTrie longProof() {
        NibbleTrie x = new NibbleTrie(1);
        int[] keys = {0x10000, 0x10001, 0x10002, 0x10003, 0x10010, 0x10020, 0x10030, 0x10040,
            0x10100, 0x10200, 0x10300, 0x10400, 0x11000, 0x12000, 0x13000, 0x14000};
        for (int key : keys) {
            x.put(key, key);
        }
        x.commit(99);
        return x;
    }

    private static void load(NibbleTrie x, long[] words) {
        int many = x.prove(0, 0x10000);
        for (int i = 0; i < words.length; i++) {
            D.due("alter(" + i + ")", x.alter(i, words[i]), true);
        }
        for (int i = words.length; i < many; i++) {
            x.cut();
        }
    }
}
