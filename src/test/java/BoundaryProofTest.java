import java.util.Arrays;

/** The sentences that bound proofs, the steps by which they show a value, and promises 14 to 18. */
final class BoundaryProofTest {
    private static final Due D = new Due();
    private static final int MAX = Integer.MAX_VALUE;
    private static final int MIN = Integer.MIN_VALUE;
    private static final long[] NOTHING = {};
    private static final long[] NO_COUNTS = {3, 4, 16, 258, 65538, -1, -2, MIN, MAX, 1L << 32, (1L << 32) + 1,
        (1L << 32) + 2, Long.MIN_VALUE, Long.MIN_VALUE + 1, Long.MIN_VALUE + 2, Long.MAX_VALUE};
    // A value that none of the tests below has anywhere.
    private static final int STRANGE = 0x5eed;
    private static final Long REFUSED = null;

    private BoundaryProofTest() {
    }

    public static void main(String[] args) {
        theProofOfTheEmptyMap();
        theProofOfALeaf();
        branchesOnTheWay();
        theProofThatWasMadeLastIsKept();
        noKeptVersionInProve();
        noWordInWord();
        noWordInAlter();
        cutToNothing();
        theFirstWord();
        theirDigestMustBeTheRoot();
        noWordsShowZero();
        everyHeadOfAPair();
        headsFarAway();
        aLeafAndThePathLeft();
        anExtensionAndThePathLeft();
        xAloneIsThePresentReference();
        everyCountOfABranch();
        oneWordMore();
        theDigestMustBeX();
        noPathIsLeft();
        theNthChild();
        noWordsMayBeLeft();
        aWordThatIsNotThereAnyMore();
        afterAProofThatShows();
        valuesThatAreNoInts();
        thatValueOfTheKey();
        D.finish();
    }

    /** The proof is the words; it shows the value, and no other, or is refused. */
    private static void shows(String what, NibbleTrie x, long root, int key, Long value) {
        for (int asked : new int[] {0, 1, 5, 6, 7, -1, MIN, MAX, STRANGE}) {
            D.due(what + ", verify " + asked, x.verify(root, key, asked), value != REFUSED && value == asked);
        }
    }

    private static void shows(String what, long[] reference, long[] rest, int key, Long value) {
        shows(what, Forged.with(Words.join(Words.row(reference.length), reference, rest)),
                Words.digest(reference), key, value);
    }

    private static void words(String what, NibbleTrie x, int many, long[] want) {
        D.due(what, many, want.length);
        for (int i = 0; i < want.length; i++) {
            D.due("word(" + i + ") of " + what, x.word(i), want[i]);
        }
        D.due("word behind " + what, x.word(want.length), 0);
    }

    private static void theProofOfTheEmptyMap() {
        D.about("A PROOF: how many words the reference of the trie has, these (of the empty map, which has no words)");
        NibbleTrie x = new NibbleTrie(1);
        x.commit(1);
        for (int key : new int[] {1, 0x10, 0x1ffff}) {
            words("prove(0, " + key + ")", x, x.prove(0, key), Words.row(0));
            D.due("verify(0, " + key + ", 0)", x.verify(0, key, 0), true);
            D.due("verify(0, " + key + ", 1)", x.verify(0, key, 1), false);
        }
    }

    private static void theProofOfALeaf() {
        D.about("A PROOF of a map with one path");
        for (int path : new int[] {1, 0x1a, 0x1ffff}) {
            NibbleTrie x = new NibbleTrie(1);
            x.put(path, 5);
            x.commit(1);
            for (int key : new int[] {1, 0x10, 0x1a, 0x1a0, 0x1fff, 0x1ffff}) {
                words("prove(0, " + key + ")", x, x.prove(0, key), Words.row(2, 2L * path + 1, 5));
                D.due("verify of " + key, x.verify(x.rootAt(0), key, key == path ? 5 : 0), true);
                D.due("verify of " + key, x.verify(x.rootAt(0), key, key == path ? 0 : 5), false);
            }
        }
    }

    private static void branchesOnTheWay() {
        D.about("the branches whose paths from the root the key begins with, from the root on");
        NibbleTrie x = new NibbleTrie(1);
        x.put(0x1ab, 5);
        x.put(0x1abcd, 6);
        x.put(0x1abce, 7);
        x.commit(9);
        long[] low = Words.branch(0, Words.row(0xd), Words.leaf(1, 6), Words.row(0xe), Words.leaf(1, 7));
        long[] top = Words.branch(5, Words.row(0xc), Words.row(Words.digest(low)));
        long[] reference = Words.extension(0x1ab, top);
        for (int key : new int[] {1, 0x1a, 0x1b, 0x1ac, 0x1aa, 0x1acc0, 0x1bbcd}) {
            words("prove, not at a branch yet, " + key, x, x.prove(0, key), Words.proof(reference));
        }
        for (int key : new int[] {0x1ab, 0x1abb, 0x1abd, 0x1abbd, 0x1ab00}) {
            words("prove, at one branch, " + key, x, x.prove(0, key), Words.proof(reference, top));
        }
        for (int key : new int[] {0x1abc, 0x1abc0, 0x1abcd, 0x1abce, 0x1abcf}) {
            words("prove, at two branches, " + key, x, x.prove(0, key), Words.proof(reference, top, low));
        }
    }

    private static void theProofThatWasMadeLastIsKept() {
        D.about("The proof that was made last is kept");
        NibbleTrie x = new NibbleTrie(1);
        x.put(0x1a, 5);
        x.commit(1);
        x.prove(0, 0x1a);
        long root = x.rootAt(0);
        x.put(0x1a, 6);
        D.due("verify after a put", x.verify(root, 0x1a, 5), true);
        x.commit(0);
        D.due("verify after going down", x.verify(root, 0x1a, 5), true);
        x.put(0x1a, 7);
        x.commit(1);
        D.due("verify after its version was dropped", x.verify(root, 0x1a, 5), true);
        x.crash();
        D.due("verify after a crash", x.verify(root, 0x1a, 5), true);
        D.due("prove(1, 0x1a)", x.prove(1, 0x1a), -1);
        D.due("verify after a refused proof", x.verify(root, 0x1a, 5), true);
        x.alter(2, 9);
        D.due("prove(0, 0x1a)", x.prove(0, 0x1a), 3);
        D.due("word(2) of the new proof", x.word(2), 7);
        D.due("verify with the new proof", x.verify(root, 0x1a, 5), false);
    }

    private static void noKeptVersionInProve() {
        D.about("prove: NONE, refused, when there is no kept version k");
        NibbleTrie x = new NibbleTrie(2);
        D.due("prove(0, 1) without a version", x.prove(0, 1), NibbleTrie.NONE);
        x.commit(1);
        D.due("prove(0, 1)", x.prove(0, 1), 1);
        D.due("prove(1, 1) with one version", x.prove(1, 1), NibbleTrie.NONE);
        x.commit(1);
        x.commit(1);
        D.due("prove(1, 1) with two versions", x.prove(1, 1), 1);
        for (int k : new int[] {MIN, MIN + 1, -2, -1, 2, 3, 256, 65536, MAX}) {
            D.due("prove(" + k + ", 1)", x.prove(k, 1), NibbleTrie.NONE);
            D.due("prove(" + k + ", 2)", x.prove(k, 2), NibbleTrie.NONE);
        }
    }

    private static void noWordInWord() {
        D.about("word: 0 when there is none");
        NibbleTrie x = Forged.with(11, 12, 13);
        D.due("word(0)", x.word(0), 11);
        D.due("word(2)", x.word(2), 13);
        for (int i : new int[] {MIN, MIN + 1, MIN + 2, -3, -2, -1, 3, 4, 5, 104, 105, 198, 199, 200, 256, 65536, MAX}) {
            D.due("word(" + i + ")", x.word(i), 0);
        }
        x.cut();
        D.due("word(1)", x.word(1), 12);
        D.due("word(2) when it was cut", x.word(2), 0);
    }

    private static void noWordInAlter() {
        D.about("alter: false when there is no word i");
        NibbleTrie x = Forged.with(11, 12, 13);
        for (int i : new int[] {MIN, MIN + 1, MIN + 2, -3, -2, -1, 3, 4, 5, 104, 105, 198, 199, 200, 256, 65536, MAX}) {
            D.due("alter(" + i + ", 9)", x.alter(i, 9), false);
        }
        for (int i = 0; i < 3; i++) {
            D.due("word(" + i + ")", x.word(i), 11 + i);
        }
        for (long w : new long[] {Long.MIN_VALUE, -1, 0, 1, Long.MAX_VALUE}) {
            D.due("alter(2, " + w + ")", x.alter(2, w), true);
            D.due("word(2)", x.word(2), w);
            D.due("alter(0, " + w + ")", x.alter(0, w), true);
            D.due("word(0)", x.word(0), w);
            D.due("word(1)", x.word(1), 12);
        }
        D.due("cut()", x.cut(), 2);
        D.due("alter(2, 9) when it was cut", x.alter(2, 9), false);
        D.due("word(2) when it was cut", x.word(2), 0);
        D.due("alter(1, 9)", x.alter(1, 9), true);
    }

    private static void cutToNothing() {
        D.about("cut: 0 also when there was none");
        NibbleTrie x = new NibbleTrie(1);
        D.due("cut() of a new object", x.cut(), 0);
        D.due("cut() again", x.cut(), 0);
        x.put(1, 5);
        x.commit(1);
        D.due("prove(0, 1)", x.prove(0, 1), 3);
        for (int left = 2; left >= 0; left--) {
            D.due("cut()", x.cut(), left);
            D.due("word(left)", x.word(left), 0);
        }
        D.due("cut() of no words", x.cut(), 0);
        D.due("cut() of no words", x.cut(), 0);
        D.due("word(0)", x.word(0), 0);
        D.due("alter(0, 1)", x.alter(0, 1), false);
        D.due("verify(0, 1, 0)", x.verify(0, 1, 0), false);
        D.due("prove(0, 1) again", x.prove(0, 1), 3);
        D.due("word(0)", x.word(0), 2);
    }

    private static void theFirstWord() {
        D.about("The first word r must be 0 .. 2; r words are taken");
        shows("r is 0", NOTHING, NOTHING, 1, 0L);
        long[] branch = Words.branch(5);
        shows("r is 1", Words.row(Words.digest(branch)), branch, 1, 5L);
        shows("r is 2", Words.leaf(1, 5), NOTHING, 1, 5L);
        long[] words = {3, 5, 6, 7};
        for (long r : NO_COUNTS) {
            for (int many = 0; many <= words.length; many++) {
                long[] behind = Arrays.copyOf(words, many);
                NibbleTrie x = Forged.with(Words.join(Words.row(r), behind));
                shows("r is " + r, x, Words.digest(behind), 1, REFUSED);
                shows("r is " + r, x, 0, 1, REFUSED);
            }
        }
    }

    private static void theirDigestMustBeTheRoot() {
        D.about("their digest must be the root");
        long[][] references = {NOTHING, Words.row(Words.digest(Words.branch(5))), Words.leaf(1, 5)};
        long[][] rests = {NOTHING, Words.branch(5), NOTHING};
        long[] values = {0, 5, 5};
        for (int i = 0; i < references.length; i++) {
            NibbleTrie x = Forged.with(Words.join(Words.row(references[i].length), references[i], rests[i]));
            long root = Words.digest(references[i]);
            shows("the root", x, root, 1, values[i]);
            for (int bit = 0; bit < 8; bit++) {
                shows("bit " + 9 * bit + " changed", x, root ^ 1L << 9 * bit, 1, REFUSED);
            }
            shows("the root's negative", x, ~root, 1, REFUSED);
        }
    }

    private static void noWordsShowZero() {
        D.about("0: the end, 0 is shown");
        for (int key : new int[] {1, 0x10, 0x1ff, 0x1ffff}) {
            shows("no words", NOTHING, NOTHING, key, 0L);
        }
        long[] branch = Words.branch(5, Words.row(3), Words.leaf(1, 6));
        for (int key : new int[] {0x10, 0x12, 0x14, 0x1f, 0x14000, 0x1ffff}) {
            shows("no words of a child", Words.row(Words.digest(branch)), branch, key, 0L);
        }
    }

    private static boolean isPath(long number) {
        return number == 1 || number >= 16 && number <= 31 || number >= 256 && number <= 511
                || number >= 4096 && number <= 8191 || number >= 65536 && number <= 131071;
    }

    /** With no path left, a leaf shows x only if its path is empty, and no extension goes further. */
    private static void head(NibbleTrie x, long h) {
        x.alter(1, h);
        long root = Words.digest(h, 5);
        boolean good = isPath(h >> 1) && h != 2;
        D.due("verify 5 with h = " + h, x.verify(root, 1, 5), h == 3);
        D.due("verify 0 with h = " + h, x.verify(root, 1, 0), good && h != 3);
    }

    private static void everyHeadOfAPair() {
        D.about("h must be 2 * N or 2 * N + 1 for a path's number N, and not 2");
        NibbleTrie x = null;
        int calls = 0;
        for (int h = -100; h < 262300; h++) {
            if (calls % 150 == 0) {
                x = new NibbleTrie(1);
                x.put(1, 5);
                x.commit(1);
                x.prove(0, 1);
            }
            calls++;
            head(x, h);
        }
    }

    private static void headsFarAway() {
        D.about("h must be 2 * N or 2 * N + 1 for a path's number N");
        long[] low = {0, 1, 2, 3, 32, 33, 63, 512, 1023, 8192, 16383, 131072, 262143};
        for (int bit = 18; bit < 64; bit++) {
            NibbleTrie x = Forged.with(2, 0, 5);
            for (long lower : low) {
                head(x, (1L << bit) + lower);
                head(x, -(1L << bit) + lower);
            }
        }
    }

    private static void aLeafAndThePathLeft() {
        D.about("x is shown if the path left is the one with the number N, otherwise 0");
        int[] keys = {1, 0x10, 0x1a, 0x1f, 0x1a0, 0x1ab, 0x1aba, 0x1abc, 0x1abc0, 0x1abcd, 0x1ffff, 0x10000};
        for (int path : keys) {
            for (int key : keys) {
                shows("a leaf with " + path + ", the key " + key, Words.leaf(path, 5), NOTHING, key,
                        path == key ? 5L : 0L);
            }
        }
        long[] branch = Words.branch(0, Words.row(0), Words.leaf(0x1a, 5), Words.row(1), Words.leaf(1, 6));
        long[] reference = Words.row(Words.digest(branch));
        shows("a leaf below a branch", reference, branch, 0x10a, 5L);
        shows("a leaf below a branch, another path", reference, branch, 0x10b, 0L);
        shows("a leaf below a branch, a shorter path", reference, branch, 0x10, 0L);
        shows("a leaf below a branch, a longer path", reference, branch, 0x10aa, 0L);
        shows("a leaf with the empty path below a branch", reference, branch, 0x11, 6L);
        shows("a leaf with the empty path below a branch, a longer path", reference, branch, 0x110, 0L);
    }

    private static void anExtensionAndThePathLeft() {
        D.about("if the path left does not begin with that one, it is the end, and 0 is shown");
        long[] branch = Words.branch(6, Words.row(0), Words.leaf(1, 5), Words.row(15), Words.leaf(0x1f, 7));
        for (int path : new int[] {0x1a, 0x1ab, 0x1abc, 0x1abcd}) {
            long[] reference = Words.extension(path, branch);
            shows("no path left", reference, NOTHING, 1, 0L);
            shows("a shorter path", reference, NOTHING, path >> 4, 0L);
            shows("another last nibble", reference, NOTHING, path ^ 1, 0L);
            shows("another first nibble", reference, NOTHING, path ^ 8 << 4 * (nibbles(path) - 1), 0L);
            shows("the same path", reference, branch, path, 6L);
            shows("the same path, without the branch", reference, NOTHING, path, REFUSED);
            if (nibbles(path) < 4) {
                shows("a nibble more", reference, branch, path << 4, 5L);
                shows("another nibble more", reference, branch, path << 4 | 1, 0L);
            }
        }
        shows("a longer path than any key's rest", Words.extension(0x1aaaa, branch), NOTHING, 0x1aaa, 0L);
        long[] below = Words.branch(0, Words.row(10), Words.extension(0x1aaaa, branch));
        shows("a longer path than is left", Words.row(Words.digest(below)), below, 0x1aaaa, 0L);
    }

    private static int nibbles(int path) {
        return (31 - Integer.numberOfLeadingZeros(path)) / 4;
    }

    private static void xAloneIsThePresentReference() {
        D.about("otherwise it is taken off the front, and x alone is the present reference");
        long[] branch = Words.branch(6);
        // Words that could be taken for a count or for the head of a pair are still a digest here.
        for (long x : new long[] {0, 1, 2, 3, 33, Words.digest(branch) ^ 1}) {
            shows("x is " + x, Words.row(2L * 0x1a, x), NOTHING, 0x1a, REFUSED);
            shows("x is " + x, Words.row(2L * 0x1a, x), branch, 0x1a, REFUSED);
            shows("x is " + x, Words.row(2L * 0x1a, x), NOTHING, 0x1ab, REFUSED);
        }
        shows("x is the digest", Words.row(2L * 0x1a, Words.digest(branch)), branch, 0x1a, 6L);
    }

    private static void everyCountOfABranch() {
        D.about("sixteen times a word c, which must be 0 .. 2, and c words");
        for (int n = 0; n < 16; n++) {
            for (int c = 0; c <= 2; c++) {
                long[] branch = Words.join(new long[n], Words.row(c), new long[c], new long[16 - n]);
                shows(c + " words at " + n, Words.row(Words.digest(branch)), branch, 1, 0L);
            }
            for (long c : NO_COUNTS) {
                long[] bare = Words.join(new long[n], Words.row(c), new long[16 - n]);
                shows("a count of " + c + " at " + n, Words.row(Words.digest(bare)), bare, 1, REFUSED);
            }
            long[] three = Words.join(new long[n], Words.row(3, 5, 6, 7), new long[16 - n]);
            shows("three words at " + n, Words.row(Words.digest(three)), three, 1, REFUSED);
            shows("three words at " + n, Words.row(Words.digest(three)), three, 0x10 + n, REFUSED);
            shows("three words at " + n, Words.row(Words.digest(three)), three, 0x1f - n, REFUSED);
        }
    }

    private static void oneWordMore() {
        D.about("and one word more, v");
        for (int many = 0; many < 17; many++) {
            long[] zeros = new long[many];
            shows(many + " words", Words.row(Words.digest(zeros)), zeros, 1, REFUSED);
            shows(many + " words", Words.row(Words.digest(zeros)), zeros, 0x1a, REFUSED);
        }
        long[] empty = new long[17];
        shows("17 words", Words.row(Words.digest(empty)), empty, 1, 0L);
        shows("17 words", Words.row(Words.digest(empty)), empty, 0x1a, 0L);
        long[] eighteen = new long[18];
        shows("18 words", Words.row(Words.digest(eighteen)), eighteen, 1, REFUSED);
        shows("18 words under the digest of 17", Words.row(Words.digest(empty)), eighteen, 1, REFUSED);
    }

    private static void theDigestMustBeX() {
        D.about("The digest of all these must be x");
        long[] branch = Words.branch(6, Words.row(0), Words.leaf(1, 5), Words.row(15), Words.leaf(1, 7));
        long[] reference = Words.row(Words.digest(branch));
        for (int i = 0; i < branch.length; i++) {
            long[] other = branch.clone();
            other[i] ^= 4;
            shows("word " + i + " of the branch changed", reference, other, 1, REFUSED);
            shows("word " + i + " of the branch changed", reference, other, 0x10, REFUSED);
        }
        for (int bit = 0; bit < 64; bit += 7) {
            shows("bit " + bit + " of x changed", Words.row(reference[0] ^ 1L << bit), branch, 1, REFUSED);
        }
        shows("x without the value", Words.row(Words.digest(Arrays.copyOf(branch, branch.length - 1))), branch, 1,
                REFUSED);
    }

    private static void noPathIsLeft() {
        D.about("When no path is left: the end, and v is shown");
        for (long v : new long[] {0, 1, 5, -1, MIN, MAX}) {
            long[] branch = Words.branch(v, Words.row(0), Words.leaf(1, 6));
            shows("v is " + v, Words.row(Words.digest(branch)), branch, 1, v);
            shows("v is " + v + ", below an extension", Words.extension(0x1abcd, branch), branch, 0x1abcd, v);
            long[] top = Words.branch(6, Words.row(15), Words.row(Words.digest(branch)));
            shows("v is " + v + ", below a branch", Words.row(Words.digest(top)), Words.join(top, branch), 0x1f, v);
        }
        long[] fifth = Words.branch(7);
        long[] fourth = Words.branch(1, Words.row(4), Words.row(Words.digest(fifth)));
        long[] third = Words.branch(1, Words.row(3), Words.row(Words.digest(fourth)));
        long[] second = Words.branch(1, Words.row(2), Words.row(Words.digest(third)));
        long[] first = Words.branch(1, Words.row(1), Words.row(Words.digest(second)));
        shows("the fifth branch", Words.row(Words.digest(first)), Words.join(first, second, third, fourth, fifth),
                0x11234, 7L);
    }

    private static void theNthChild() {
        D.about("the c words behind the n-th (from 0 on) c are the present reference");
        long[][] children = new long[32][];
        for (int n = 0; n < 16; n++) {
            children[2 * n] = Words.row(n);
            children[2 * n + 1] = n % 3 == 1 ? NOTHING : Words.leaf(1, n % 3 == 0 ? 5 : 6);
        }
        long[] branch = Words.branch(7, children);
        long[] reference = Words.row(Words.digest(branch));
        for (int n = 0; n < 16; n++) {
            shows("child " + n, reference, branch, 0x10 + n, n % 3 == 1 ? 0L : n % 3 == 0 ? 5L : 6L);
            shows("below child " + n, reference, branch, 0x100 + 16 * n, 0L);
        }
        long[] low = Words.branch(-1);
        for (int n = 0; n < 16; n++) {
            long[] top = Words.branch(7, Words.row(n), Words.row(Words.digest(low)));
            shows("a branch as child " + n, Words.row(Words.digest(top)), Words.join(top, low), 0x10 + n, -1L);
            shows("not child " + n, Words.row(Words.digest(top)), top, 0x1f - n, 0L);
        }
    }

    private static void noWordsMayBeLeft() {
        D.about("At the end no words may be left, otherwise it is refused");
        long[] branch = Words.branch(6, Words.row(0), Words.leaf(1, 5));
        long[] one = Words.row(Words.digest(branch));
        for (long[] left : new long[][] {{0}, {1}, {5}, {-1}, {0, 0}, branch}) {
            shows("no words", NOTHING, left, 1, REFUSED);
            shows("the leaf's path", Words.leaf(0x1a, 5), left, 0x1a, REFUSED);
            shows("another path than the leaf's", Words.leaf(0x1a, 5), left, 0x1b, REFUSED);
            shows("not on the extension's way", Words.extension(0x1a, branch), left, 0x1b, REFUSED);
            shows("no path left at a branch", one, Words.join(branch, left), 1, REFUSED);
            shows("no child", one, Words.join(branch, left), 0x1f, REFUSED);
            shows("a leaf as child", one, Words.join(branch, left), 0x10, REFUSED);
            shows("another leaf as child", one, Words.join(branch, left), 0x100, REFUSED);
        }
    }

    private static void aWordThatIsNotThereAnyMore() {
        D.about("refused is also what needs a word that is not there any more");
        long[] low = Words.branch(6, Words.row(15), Words.leaf(1, 5));
        long[] top = Words.branch(7, Words.row(0), Words.extension(0x1c, low));
        cutDown("no words", Words.row(0), NOTHING, 1, 0L);
        cutDown("a leaf", Words.proof(Words.leaf(0x1a, 5)), Words.leaf(0x1a, 5), 0x1a, 5L);
        cutDown("no leaf of the key", Words.proof(Words.leaf(0x1a, 5)), Words.leaf(0x1a, 5), 0x1b, 0L);
        long[] reference = Words.extension(0x1ab, top);
        cutDown("not on the way", Words.proof(reference), reference, 0x1a, 0L);
        cutDown("a branch", Words.proof(reference, top), reference, 0x1ab, 7L);
        cutDown("no child", Words.proof(reference, top), reference, 0x1ab1, 0L);
        long[] topOnly = Words.row(Words.digest(top));
        cutDown("two branches", Words.proof(topOnly, top, low), topOnly, 0x10c, 6L);
        cutDown("a leaf below them", Words.proof(topOnly, top, low), topOnly, 0x10cf, 5L);
    }

    private static void cutDown(String what, long[] proof, long[] reference, int key, Long value) {
        NibbleTrie x = Forged.with(proof);
        shows(what, x, Words.digest(reference), key, value);
        for (int left = proof.length - 1; left >= 0; left--) {
            D.due("cut() of " + what, x.cut(), left);
            for (int asked : new int[] {0, 5, 6, 7}) {
                D.due(what + " with " + left + " words", x.verify(Words.digest(reference), key, asked), false);
            }
            D.due(what + " with " + left + " words", x.verify(0, key, 0), false);
        }
    }

    /** What was shown just before does not help a proof that is refused now. */
    private static void afterAProofThatShows() {
        D.about("refused, after the same proof was not");
        NibbleTrie none = Forged.with(0);
        D.due("verify of no words", none.verify(0, 0x1a, 0), true);
        for (long r : NO_COUNTS) {
            none.alter(0, r);
            D.due("verify with the first word " + r, none.verify(0, 0x1a, 0), false);
        }
        none.cut();
        D.due("verify without a word", none.verify(0, 0x1a, 0), false);
        long[] branch = Words.branch(5, Words.row(0), Words.leaf(1, 6));
        long root = Words.digest(Words.digest(branch));
        NibbleTrie x = Forged.with(Words.proof(Words.row(Words.digest(branch)), branch));
        for (int key : new int[] {1, 0x10, 0x11}) {
            int value = key == 1 ? 5 : key == 0x10 ? 6 : 0;
            for (int i = 0; i < 2 + branch.length; i++) {
                long before = x.word(i);
                D.due("verify of " + key, x.verify(root, key, value), true);
                x.alter(i, 3 + before);
                D.due("verify with word " + i + " changed", x.verify(root, key, value), false);
                x.alter(i, before);
            }
        }
        D.due("verify under another root", x.verify(~root, 1, 5), false);
        D.due("verify", x.verify(root, 1, 5), true);
    }

    private static void valuesThatAreNoInts() {
        D.about("It SHOWS a value");
        for (long w : new long[] {1L << 32, (1L << 32) + 5, 0xffffffffL, 0x80000000L, -(1L << 32), Long.MIN_VALUE,
            Long.MAX_VALUE, -(1L << 32) + 5}) {
            shows("a leaf with " + w, Words.leaf(0x1a, w), NOTHING, 0x1a, w);
            long[] branch = Words.branch(w);
            shows("a branch with " + w, Words.row(Words.digest(branch)), branch, 1, w);
        }
    }

    private static void thatValueOfTheKey() {
        D.about("verify: Whether the proof shows that value (0 for none) of the key under that root");
        NibbleTrie x = new NibbleTrie(3);
        for (int value : new int[] {MIN, -1, 1, MAX}) {
            x.put(0x1a, value);
            x.put(0x1ab, 5);
            x.commit(9);
            x.prove(0, 0x1a);
            shows("the value " + value, x, x.rootAt(0), 0x1a, (long) value);
            x.prove(0, 0x1b);
            shows("a key that is not there", x, x.rootAt(0), 0x1b, 0L);
            x.prove(0, 1);
            shows("the empty path, which is not there", x, x.rootAt(0), 1, 0L);
        }
    }
}
