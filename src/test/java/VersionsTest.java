/** Promises 7 to 13: commits, crashes, versions, and what is stored and used. */
final class VersionsTest {
    private static final Due D = new Due();
    private static final int MAX = Integer.MAX_VALUE;
    private static final int MIN = Integer.MIN_VALUE;

    private VersionsTest() {
    }

    public static void main(String[] args) {
        promise7Commit();
        promise7StoredBranchesNeedNoWrite();
        promise7WhatADroppedVersionHad();
        promise8Crash();
        promise9Versions();
        promise10At();
        promise11RootAt();
        promise12Stored();
        promise12BranchesThatAreAlike();
        promise13Uses();
        promise13UsesOfOneBranchInManyPlaces();
        sameDigestOfDifferentMaps();
        sameEncodingOfDifferentMaps();
        D.finish();
    }

    private static void promise7Commit() {
        D.about("promise 7, commit");
        NibbleTrie x = new NibbleTrie(2);
        D.due("commit(0)", x.commit(0), -1);
        D.due("commit(MIN)", x.commit(MIN), -1);
        D.due("versions()", x.versions(), 0);
        D.due("commit(1) of the empty map", x.commit(1), 0);
        D.due("versions()", x.versions(), 1);
        x.put(0x1a, 1);
        D.due("commit(0)", x.commit(0), -1);
        D.due("size() after going down", x.size(), 0);
        D.due("versions()", x.versions(), 1);
        x.put(0x1a, 1);
        D.due("commit(1) of a leaf", x.commit(1), 0);
        D.due("get(0x1a)", x.get(0x1a), 1);
        x.put(0x1b, 2);
        x.put(0x1a, 3);
        D.due("commit(1) of a branch", x.commit(1), -1);
        D.due("get(0x1a)", x.get(0x1a), 1);
        D.due("get(0x1b)", x.get(0x1b), 0);
        x.put(0x1b, 2);
        D.due("commit(2) of a branch", x.commit(2), 1);
        D.due("get(0x1b)", x.get(0x1b), 2);
        D.due("commit(MAX) again", x.commit(MAX), 0);
        D.due("commit(0) again", x.commit(0), -1);
        D.due("size()", x.size(), 2);
    }

    private static void promise7StoredBranchesNeedNoWrite() {
        D.about("promise 7, stored branches");
        NibbleTrie x = new NibbleTrie(3);
        pair(x, 0x1a, 1);
        D.due("commit(2)", x.commit(2), 1);
        pair(x, 0x1b, 1);
        D.due("commit(2), the pair twice, a branch above", x.commit(2), 1);
        pair(x, 0x1b, 2);
        pair(x, 0x1c, 2);
        D.due("commit(2), a new pair twice", x.commit(2), -1);
        pair(x, 0x1b, 2);
        pair(x, 0x1c, 2);
        D.due("commit(3), a new pair twice", x.commit(3), 2);
    }

    private static void promise7WhatADroppedVersionHad() {
        D.about("promise 7, a version that is dropped");
        NibbleTrie x = new NibbleTrie(1);
        pair(x, 0x1a, 1);
        x.commit(9);
        D.due("commit(1) of the same map", x.commit(1), 0);
        pair(x, 0x1a, 2);
        D.due("commit(2)", x.commit(2), 1);
        pair(x, 0x1a, 1);
        D.due("commit(1) of what was dropped", x.commit(1), -1);
        pair(x, 0x1a, 1);
        D.due("commit(2) of what was dropped", x.commit(2), 1);
    }

    private static void promise8Crash() {
        D.about("promise 8, crash");
        NibbleTrie x = new NibbleTrie(2);
        x.put(1, 1);
        D.due("crash() without a version", x.crash(), 0);
        D.due("root()", x.root(), 0);
        pair(x, 0x1a, 1);
        x.commit(9);
        long root = x.root();
        x.put(0x1a0, 0);
        x.put(0x1a1, 5);
        x.put(0x1b, 5);
        x.put(0x1c, 5);
        D.due("crash()", x.crash(), 2);
        D.due("root()", x.root(), root);
        D.due("get(0x1a1)", x.get(0x1a1), 1);
        D.due("get(0x1b)", x.get(0x1b), 0);
        D.due("count(2)", x.count(2), 1);
        x.put(0x1b, 5);
        x.commit(9);
        D.due("crash()", x.crash(), 3);
        D.due("versions()", x.versions(), 2);
        x.put(0x1b, 6);
        D.due("at(0, 0x1b) is apart from the working map", x.at(0, 0x1b), 5);
        D.due("at(1, 0x1b)", x.at(1, 0x1b), 0);
        D.due("prove(0, 0x1b)", x.prove(0, 0x1b), 22);
        x.crash();
        D.due("word(0) after a crash", x.word(0), 1);
        D.due("commit(9)", x.commit(9), 0);
        D.due("word(0) after a commit", x.word(0), 1);
        D.due("commit(0)", x.commit(0), -1);
        D.due("verify after a crash", x.verify(x.rootAt(0), 0x1b, 5), true);
    }

    private static void promise9Versions() {
        D.about("promise 9, versions");
        NibbleTrie x = new NibbleTrie(2);
        D.due("versions()", x.versions(), 0);
        x.commit(1);
        D.due("versions()", x.versions(), 1);
        x.commit(0);
        D.due("versions() after going down", x.versions(), 1);
        x.crash();
        D.due("versions() after a crash", x.versions(), 1);
        x.commit(1);
        D.due("versions()", x.versions(), 2);
        x.commit(1);
        D.due("versions()", x.versions(), 2);
    }

    private static void promise10At() {
        D.about("promise 10, at");
        NibbleTrie x = new NibbleTrie(3);
        D.due("at(0, 1)", x.at(0, 1), 0);
        for (int v = 1; v <= 5; v++) {
            x.put(1, v);
            x.put(0x10 + v, v);
            x.commit(9);
        }
        for (int k = 0; k < 3; k++) {
            D.due("at(" + k + ", 1)", x.at(k, 1), 5 - k);
            D.due("at(" + k + ", 0x14)", x.at(k, 0x14), k < 2 ? 4 : 0);
            D.due("at(" + k + ", 0x16)", x.at(k, 0x16), 0);
            D.due("at(" + k + ", 2)", x.at(k, 2), 0);
            D.due("at(" + k + ", 0)", x.at(k, 0), 0);
            D.due("at(" + k + ", -1)", x.at(k, -1), 0);
            D.due("at(" + k + ", 131072)", x.at(k, 131072), 0);
        }
        for (int k : new int[] {MIN, -1, 3, 4, MAX}) {
            D.due("at(" + k + ", 1)", x.at(k, 1), 0);
        }
        x.put(1, 0);
        D.due("at(0, 1) after a put", x.at(0, 1), 5);
    }

    private static void promise11RootAt() {
        D.about("promise 11, rootAt");
        NibbleTrie x = new NibbleTrie(2);
        D.due("rootAt(0)", x.rootAt(0), 0);
        pair(x, 0x1a, 1);
        long first = x.root();
        x.commit(9);
        D.due("rootAt(1)", x.rootAt(1), 0);
        x.put(0x1b, 1);
        D.due("rootAt(0) after a put", x.rootAt(0), first);
        long second = x.root();
        x.commit(9);
        D.due("rootAt(0)", x.rootAt(0), second);
        D.due("rootAt(1)", x.rootAt(1), first);
        x.put(0x1c, 1);
        x.commit(9);
        D.due("rootAt(1)", x.rootAt(1), second);
        for (int k : new int[] {MIN, -1, 2, 3, MAX}) {
            D.due("rootAt(" + k + ")", x.rootAt(k), 0);
        }
    }

    private static void promise12Stored() {
        D.about("promise 12, stored");
        NibbleTrie x = new NibbleTrie(2);
        pair(x, 0x1a, 1);
        D.due("stored() before a commit", x.stored(), 0);
        x.commit(9);
        D.due("stored()", x.stored(), 1);
        pair(x, 0x1bc, 1);
        x.commit(9);
        D.due("stored(), the same pair elsewhere", x.stored(), 2);
        x.put(0x1a0, 0);
        x.put(0x1a1, 0);
        x.commit(9);
        D.due("stored()", x.stored(), 2);
        x.commit(9);
        D.due("stored(), one version twice", x.stored(), 1);
        x.put(0x1bc0, 0);
        x.put(0x1bc1, 0);
        x.commit(9);
        x.commit(9);
        D.due("stored() of empty maps", x.stored(), 0);
    }

    private static void promise12BranchesThatAreAlike() {
        D.about("promise 12, branches that are alike but not one");
        NibbleTrie x = new NibbleTrie(1);
        x.put(0x1a0, 1);
        x.put(0x1a1, 1);
        x.put(0x1b0, 1);
        x.put(0x1b2, 1);
        D.due("commit(4), other paths", x.commit(4), 3);
        D.due("stored(), other paths", x.stored(), 3);
        x.put(0x1b2, 0);
        x.put(0x1b1, 2);
        D.due("commit(3), another value", x.commit(3), 2);
        D.due("stored(), another value", x.stored(), 3);
        x.put(0x1b1, 1);
        x.put(0x1b2, 1);
        D.due("commit(3), a path more behind", x.commit(3), 2);
        D.due("stored(), a path more behind", x.stored(), 3);
        x.put(0x1b2, 0);
        x.put(0x1b, 1);
        D.due("commit(3), a path more in front", x.commit(3), 2);
        D.due("stored(), a path more in front", x.stored(), 3);
        x.put(0x1b, 0);
        D.due("commit(2), the same", x.commit(2), 1);
        D.due("stored(), the same", x.stored(), 2);
    }

    private static void promise13Uses() {
        D.about("promise 13, uses");
        NibbleTrie x = new NibbleTrie(3);
        long low = Words.digest(pairBranch(1));
        pair(x, 0x1a, 1);
        D.due("uses before a commit", x.uses(low), 0);
        x.commit(9);
        D.due("uses below an extension", x.uses(low), 1);
        x.commit(9);
        D.due("uses in two versions", x.uses(low), 2);
        x.put(0x1b, 1);
        x.commit(9);
        long[] top = Words.branch(0, Words.row(0xa), Words.row(low), Words.row(0xb), Words.leaf(1, 1));
        D.due("uses as a child too", x.uses(low), 3);
        D.due("uses of the branch above", x.uses(Words.digest(top)), 1);
        x.commit(9);
        D.due("uses as the child of one branch in two versions", x.uses(low), 2);
        D.due("uses of the branch above", x.uses(Words.digest(top)), 2);
        D.due("uses(0)", x.uses(0), 0);
        D.due("uses of a root", x.uses(x.root()), 0);
        D.due("uses of a leaf's digest", x.uses(Words.digest(Words.leaf(1, 1))), 0);
        D.due("uses of an extension's digest", x.uses(Words.digest(Words.row(2 * 0x1a, low))), 0);
    }

    private static void promise13UsesOfOneBranchInManyPlaces() {
        D.about("promise 13, one branch in many places");
        NibbleTrie x = new NibbleTrie(3);
        long low = Words.digest(pairBranch(3));
        pair(x, 0x1aa, 3);
        pair(x, 0x1ab, 3);
        pair(x, 0x1ba, 3);
        pair(x, 0x1bb, 3);
        pair(x, 0x1c, 3);
        pair(x, 0x1d00, 3);
        long middle = Words.digest(Words.branch(0, Words.row(0xa), Words.row(low), Words.row(0xb), Words.row(low)));
        D.due("commit(4)", x.commit(4), 3);
        D.due("stored()", x.stored(), 3);
        D.due("uses of the pair", x.uses(low), 4);
        D.due("uses of the middle", x.uses(middle), 2);
        x.put(1, 1);
        D.due("commit(2)", x.commit(2), 1);
        D.due("stored()", x.stored(), 4);
        D.due("uses of the pair, two tops", x.uses(low), 6);
        D.due("uses of the middle, two tops", x.uses(middle), 4);
    }

    /** The maps {"": 7, "0": 65940} and {"": 1257902171, "0": 80534} have one digest. */
    private static void sameDigestOfDifferentMaps() {
        D.about("promises 7, 12, 13, different maps with the same digest");
        long digest = 5512002662063265981L;
        D.due("digest", Words.digest(Words.branch(7, Words.row(0), Words.leaf(1, 65940))), digest);
        NibbleTrie x = new NibbleTrie(3);
        x.put(1, 7);
        x.put(0x10, 65940);
        D.due("commit(2)", x.commit(2), 1);
        D.due("uses", x.uses(digest), 1);
        x.put(1, 1257902171);
        x.put(0x10, 80534);
        D.due("root()", x.root(), x.rootAt(0));
        D.due("commit(1)", x.commit(1), -1);
        D.due("get(1)", x.get(1), 7);
        x.put(1, 1257902171);
        x.put(0x10, 80534);
        D.due("commit(2)", x.commit(2), 1);
        D.due("stored()", x.stored(), 2);
        D.due("uses", x.uses(digest), 2);
        D.due("commit(1)", x.commit(1), 0);
        D.due("stored()", x.stored(), 2);
        D.due("uses", x.uses(digest), 3);
        D.due("at(0, 1)", x.at(0, 1), 1257902171);
        D.due("at(2, 1)", x.at(2, 1), 7);
    }

    /** With these maps below the nibbles 2 and 3, the branches above differ and have one encoding. */
    private static void sameEncodingOfDifferentMaps() {
        D.about("promises 7, 12, 13, different maps with the same encoding");
        long digest = 5512002662063265981L;
        NibbleTrie x = new NibbleTrie(2);
        x.put(0x12, 7);
        x.put(0x120, 65940);
        x.put(0x13, 7);
        x.put(0x130, 65940);
        D.due("commit(3)", x.commit(3), 2);
        long top = Words.digest(
                Words.branch(0, Words.row(2), Words.row(digest), Words.row(3), Words.row(digest)));
        D.due("uses of the low one", x.uses(digest), 2);
        D.due("uses of the top", x.uses(top), 1);
        x.put(0x13, 1257902171);
        x.put(0x130, 80534);
        D.due("root()", x.root(), x.rootAt(0));
        D.due("commit(2)", x.commit(2), -1);
        x.put(0x13, 1257902171);
        x.put(0x130, 80534);
        D.due("commit(3)", x.commit(3), 2);
        D.due("stored()", x.stored(), 4);
        D.due("uses of the low ones", x.uses(digest), 4);
        D.due("uses of the tops", x.uses(top), 2);
    }

    /** Two keys below the path, so that a branch stands there if nothing else is below it. */
    private static void pair(NibbleTrie x, int path, int value) {
        x.put(path << 4, value);
        x.put((path << 4) + 1, value);
    }

    private static long[] pairBranch(int value) {
        return Words.branch(0, Words.row(0), Words.leaf(1, value), Words.row(1), Words.leaf(1, value));
    }
}
