/** The sentences that bound versions, what is stored and its uses: promises 1 and 7 to 13. */
final class BoundaryVersionsTest {
    private static final Due D = new Due();
    private static final int MAX = Integer.MAX_VALUE;
    private static final int MIN = Integer.MIN_VALUE;
    private static final int[] NO_VERSIONS = {MIN, MIN + 1, -2, -1, 3, 4, 256, 65536, MAX};

    private BoundaryVersionsTest() {
    }

    public static void main(String[] args) {
        keptIsAtLeastOneAndAtMostThree();
        aNewObject();
        allOf512Calls();
        theWorkingMapIsEmptyAtFirst();
        onlyTheLatestAreKept();
        oneWriteForTheRoot();
        oneWriteForEachBranchThatIsNotStored();
        branchesThatAreOneAreCountedOnce();
        lessThanNeeded();
        goingDownWithoutAVersion();
        goingDownDropsNoVersion();
        crashWithoutAVersion();
        crashAnswersHowManyKeys();
        versionsAreNoneToR();
        noKeptVersionInAt();
        noKeptVersionInRootAt();
        nothingIsStored();
        theTrieItselfIsStored();
        branchesOfTheSameMapAreOne();
        whatIsDroppedIsNotStored();
        lessIsStoredThanBefore();
        asManyBranchesAsCanBe();
        usesOfNothing();
        usesByVersions();
        usesByChildren();
        usesOfOneDigestAreAddedUp();
        D.finish();
    }

    /** Two keys below the path, with a branch there whose children are two leaves. */
    private static void pair(NibbleTrie x, int path, int value) {
        x.put(path << 4, value);
        x.put((path << 4) + 15, value);
    }

    private static long pairDigest(int value) {
        return Words.digest(
                Words.branch(0, Words.row(0), Words.leaf(1, value), Words.row(15), Words.leaf(1, value)));
    }

    private static void keptIsAtLeastOneAndAtMostThree() {
        D.about("R is kept, but at least 1 and at most 3");
        int[] asked = {MIN, MIN + 1, MIN + 2, -65535, -3, -2, -1, 0, 1, 2, 3, 4, 5, 16, 257, 65538, MAX - 1, MAX};
        int[] kept = {1, 1, 1, 1, 1, 1, 1, 1, 1, 2, 3, 3, 3, 3, 3, 3, 3, 3};
        for (int i = 0; i < asked.length; i++) {
            NibbleTrie x = new NibbleTrie(asked[i]);
            for (int made = 1; made <= 6; made++) {
                x.put(1, made);
                x.commit(1);
                D.due("versions() with kept " + asked[i], x.versions(), Math.min(made, kept[i]));
            }
            for (int k = 0; k < 5; k++) {
                String what = "with kept " + asked[i] + ", version " + k;
                D.due("at " + what, x.at(k, 1), k < kept[i] ? 6 - k : 0);
                D.due("rootAt " + what, x.rootAt(k), k < kept[i] ? Words.digest(3, 6 - k) : 0);
                D.due("prove " + what, x.prove(k, 1), k < kept[i] ? 3 : -1);
            }
        }
    }

    private static void aNewObject() {
        D.about("There are no versions, and the proof has no words");
        for (int kept = 0; kept < 5; kept++) {
            NibbleTrie x = new NibbleTrie(kept);
            D.due("versions()", x.versions(), 0);
            D.due("at(0, 1)", x.at(0, 1), 0);
            D.due("rootAt(0)", x.rootAt(0), 0);
            D.due("prove(0, 1)", x.prove(0, 1), -1);
            D.due("word(0)", x.word(0), 0);
            D.due("alter(0, 0)", x.alter(0, 0), false);
            D.due("cut()", x.cut(), 0);
            D.due("verify(0, 1, 0)", x.verify(0, 1, 0), false);
        }
    }

    private static void allOf512Calls() {
        D.about("An object is used for at most 512 calls");
        NibbleTrie x = new NibbleTrie(3);
        for (int i = 1; i <= 169; i++) {
            D.due("put " + i, x.put(0x1a000 + i % 3, i), i <= 3 ? 0 : i - 3);
            D.due("commit " + i, x.commit(2), i == 1 ? 0 : 1);
            D.due("versions() " + i, x.versions(), Math.min(i, 3));
        }
        D.due("call 508", x.at(0, 0x1a000 + 169 % 3), 169);
        D.due("call 509", x.at(2, 0x1a000 + 169 % 3), 166);
        D.due("call 510", x.stored(), 3);
        D.due("call 511", x.prove(2, 0x1a000), 2 + 1 + 17 + 6);
        D.due("call 512", x.verify(Words.digest(2L * 0x1a00, Words.digest(Words.branch(0, Words.row(0),
                Words.leaf(1, 165), Words.row(1), Words.leaf(1, 166), Words.row(2), Words.leaf(1, 167)))),
                0x1a001, 166), true);
    }

    private static void theWorkingMapIsEmptyAtFirst() {
        D.about("The WORKING map is empty at first");
        NibbleTrie x = new NibbleTrie(1);
        D.due("size()", x.size(), 0);
        D.due("get(1)", x.get(1), 0);
        D.due("root()", x.root(), 0);
        D.due("commit(1)", x.commit(1), 0);
        D.due("versions()", x.versions(), 1);
        D.due("rootAt(0)", x.rootAt(0), 0);
    }

    private static void onlyTheLatestAreKept() {
        D.about("of the versions the latest R are KEPT. Version 0 is the latest one, 1 the one before");
        NibbleTrie x = new NibbleTrie(2);
        pair(x, 0x1a, 1);
        long first = x.root();
        x.commit(9);
        x.put(0x1b, 1);
        long second = x.root();
        x.commit(9);
        D.due("rootAt(0)", x.rootAt(0), second);
        D.due("rootAt(1)", x.rootAt(1), first);
        x.commit(9);
        D.due("rootAt(0), the same map again", x.rootAt(0), second);
        D.due("rootAt(1), the same map again", x.rootAt(1), second);
        D.due("rootAt(2)", x.rootAt(2), 0);
        x.put(0x1b, 2);
        D.due("at(0, 0x1b) after a put", x.at(0, 0x1b), 1);
        x.commit(9);
        D.due("at(0, 0x1b)", x.at(0, 0x1b), 2);
        D.due("at(1, 0x1b)", x.at(1, 0x1b), 1);
        D.due("get(0x1b), which a commit does not change", x.get(0x1b), 2);
    }

    private static void oneWriteForTheRoot() {
        D.about("commit: .. and one for the root");
        for (int writes : new int[] {MIN, MIN + 1, -2, -1, 0}) {
            NibbleTrie x = new NibbleTrie(1);
            D.due("commit(" + writes + ") of the empty map", x.commit(writes), -1);
            x.put(0x1a, 1);
            D.due("commit(" + writes + ") of a leaf", x.commit(writes), -1);
            D.due("versions()", x.versions(), 0);
        }
        for (int writes : new int[] {1, 2, MAX - 1, MAX}) {
            NibbleTrie x = new NibbleTrie(1);
            D.due("commit(" + writes + ") of the empty map", x.commit(writes), 0);
            x.put(0x1a, 1);
            D.due("commit(" + writes + ") of a leaf", x.commit(writes), 0);
            D.due("at(0, 0x1a)", x.at(0, 0x1a), 1);
        }
    }

    /** So many branches on one way, or beside one another, with values that differ. */
    private static void putBranches(NibbleTrie x, int many) {
        for (int i = 0; i < many; i++) {
            x.put(0x1000 + i, i + 1);
            x.put(0x10000 + 16 * i, i + 1);
        }
    }

    private static void oneWriteForEachBranchThatIsNotStored() {
        D.about("one is needed for each branch of the working map's trie that is not stored");
        for (int many = 2; many <= 8; many++) {
            NibbleTrie x = new NibbleTrie(1);
            putBranches(x, many);
            D.due("count(2)", x.count(2), many + 1);
            D.due("commit(" + (many + 1) + ")", x.commit(many + 1), -1);
            D.due("size()", x.size(), 0);
            putBranches(x, many);
            D.due("commit(" + (many + 2) + ")", x.commit(many + 2), many + 1);
            D.due("commit(0), all stored", x.commit(0), -1);
            D.due("commit(1), all stored", x.commit(1), 0);
            x.put(0x10000, 99);
            D.due("commit(2), two not stored", x.commit(2), -1);
            D.due("get", x.get(0x10000), 1);
            x.put(0x10000, 99);
            D.due("commit(3), two not stored", x.commit(3), 2);
        }
    }

    private static void branchesThatAreOneAreCountedOnce() {
        D.about("branches that are one counted once");
        NibbleTrie x = new NibbleTrie(1);
        for (int path = 0x10; path < 0x18; path++) {
            pair(x, path, 1);
        }
        D.due("count(2)", x.count(2), 9);
        D.due("commit(2)", x.commit(2), -1);
        for (int path = 0x10; path < 0x18; path++) {
            pair(x, path, 1);
        }
        D.due("commit(3)", x.commit(3), 2);
    }

    private static void lessThanNeeded() {
        D.about("When writes is less than needed, the store goes down on the way");
        NibbleTrie x = new NibbleTrie(3);
        pair(x, 0x1a, 1);
        x.commit(2);
        long root = x.rootAt(0);
        pair(x, 0x1a, 2);
        pair(x, 0x1b, 3);
        x.put(1, 4);
        for (int writes : new int[] {3, 0, -1, MIN}) {
            D.due("commit(" + writes + ")", x.commit(writes), NibbleTrie.NONE);
            D.due("versions()", x.versions(), 1);
            D.due("rootAt(0)", x.rootAt(0), root);
            D.due("rootAt(1)", x.rootAt(1), 0);
            D.due("root()", x.root(), root);
            D.due("size()", x.size(), 2);
            D.due("count(2)", x.count(2), 1);
            D.due("get(0x1a0)", x.get(0x1a0), 1);
            D.due("get(1)", x.get(1), 0);
            D.due("stored()", x.stored(), 1);
            D.due("uses of what was on the way", x.uses(pairDigest(3)), 0);
            pair(x, 0x1a, 2);
            pair(x, 0x1b, 3);
            x.put(1, 4);
        }
        D.due("commit(4)", x.commit(4), 3);
        D.due("versions()", x.versions(), 2);
    }

    private static void goingDownWithoutAVersion() {
        D.about("commit: the working map becomes .. empty when there is none");
        NibbleTrie x = new NibbleTrie(2);
        pair(x, 0x1a, 1);
        D.due("commit(1)", x.commit(1), -1);
        D.due("size()", x.size(), 0);
        D.due("root()", x.root(), 0);
        D.due("count(0)", x.count(0), 0);
        D.due("count(1)", x.count(1), 0);
        D.due("count(2)", x.count(2), 0);
        D.due("get(0x1a0)", x.get(0x1a0), 0);
        D.due("versions()", x.versions(), 0);
        D.due("stored()", x.stored(), 0);
        D.due("commit(1) of what is empty now", x.commit(1), 0);
    }

    private static void goingDownDropsNoVersion() {
        D.about("commit: no version is made");
        NibbleTrie x = new NibbleTrie(3);
        for (int i = 1; i <= 3; i++) {
            pair(x, 0x1a, i);
            x.commit(2);
        }
        pair(x, 0x1a, 4);
        D.due("commit(1)", x.commit(1), -1);
        for (int k = 0; k < 3; k++) {
            D.due("at(" + k + ", 0x1a0)", x.at(k, 0x1a0), 3 - k);
            D.due("uses of version " + k, x.uses(pairDigest(3 - k)), 1);
        }
        D.due("get(0x1a0)", x.get(0x1a0), 3);
        D.due("stored()", x.stored(), 3);
    }

    private static void crashWithoutAVersion() {
        D.about("crash: .. empty when there is none");
        NibbleTrie x = new NibbleTrie(1);
        D.due("crash() of a new object", x.crash(), 0);
        pair(x, 0x1a, 1);
        D.due("crash()", x.crash(), 0);
        D.due("size()", x.size(), 0);
        D.due("root()", x.root(), 0);
        D.due("count(2)", x.count(2), 0);
        D.due("versions()", x.versions(), 0);
        D.due("put(0x1a0, 3)", x.put(0x1a0, 3), 0);
    }

    private static void crashAnswersHowManyKeys() {
        D.about("crash: Answers how many keys it has then");
        NibbleTrie x = new NibbleTrie(1);
        x.commit(1);
        x.put(1, 1);
        D.due("crash() to an empty version", x.crash(), 0);
        for (int keys = 1; keys <= 16; keys++) {
            x.put(0x1a0 + keys, keys);
            x.commit(9);
            x.put(0x1a0 + keys, 0);
            x.put(0x1b, 7);
            D.due("crash() to " + keys + " keys", x.crash(), keys);
            D.due("size()", x.size(), keys);
            D.due("get of what was taken away", x.get(0x1a0 + keys), keys);
            D.due("get of what was put", x.get(0x1b), 0);
            D.due("root()", x.root(), x.rootAt(0));
        }
        D.due("put of a key more", x.put(0x1c, 1), 0);
        D.due("get of a key more", x.get(0x1c), 0);
    }

    private static void versionsAreNoneToR() {
        D.about("versions: How many versions are kept");
        for (int kept = 1; kept <= 3; kept++) {
            NibbleTrie x = new NibbleTrie(kept);
            D.due("versions() at first", x.versions(), 0);
            for (int made = 1; made <= 5; made++) {
                x.commit(0);
                x.crash();
                D.due("versions() before commit " + made, x.versions(), Math.min(made - 1, kept));
                x.commit(1);
                D.due("versions() after commit " + made, x.versions(), Math.min(made, kept));
            }
        }
    }

    /** Five commits, of which the versions 0, 1 and 2 are kept. */
    private static NibbleTrie withThreeVersions() {
        NibbleTrie x = new NibbleTrie(3);
        for (int i = 1; i <= 5; i++) {
            x.put(0x1a, i);
            x.commit(1);
        }
        return x;
    }

    private static void noKeptVersionInAt() {
        D.about("at: 0 when .. there is no kept version k");
        NibbleTrie x = withThreeVersions();
        for (int k = 0; k < 3; k++) {
            D.due("at(" + k + ", 0x1a)", x.at(k, 0x1a), 5 - k);
            D.due("at(" + k + ", 0x1b)", x.at(k, 0x1b), 0);
        }
        for (int k : NO_VERSIONS) {
            D.due("at(" + k + ", 0x1a)", x.at(k, 0x1a), 0);
        }
        NibbleTrie one = new NibbleTrie(3);
        one.put(0x1a, 1);
        D.due("at(0, 0x1a) before a commit", one.at(0, 0x1a), 0);
        one.commit(1);
        D.due("at(0, 0x1a)", one.at(0, 0x1a), 1);
        D.due("at(1, 0x1a) with one version", one.at(1, 0x1a), 0);
        D.due("at(2, 0x1a) with one version", one.at(2, 0x1a), 0);
    }

    private static void noKeptVersionInRootAt() {
        D.about("rootAt: 0 when there is no kept version k");
        NibbleTrie x = withThreeVersions();
        for (int k = 0; k < 3; k++) {
            D.due("rootAt(" + k + ")", x.rootAt(k), Words.digest(Words.leaf(0x1a, 5 - k)));
        }
        for (int k : NO_VERSIONS) {
            D.due("rootAt(" + k + ")", x.rootAt(k), 0);
        }
        NibbleTrie one = new NibbleTrie(3);
        one.put(0x1a, 1);
        D.due("rootAt(0) before a commit", one.rootAt(0), 0);
        one.commit(1);
        D.due("rootAt(0)", one.rootAt(0), one.root());
        D.due("rootAt(1) with one version", one.rootAt(1), 0);
        D.due("rootAt(2) with one version", one.rootAt(2), 0);
    }

    private static void nothingIsStored() {
        D.about("STORED are the branches .. of kept versions");
        NibbleTrie x = new NibbleTrie(3);
        D.due("stored() without a version", x.stored(), 0);
        pair(x, 0x1a, 1);
        D.due("stored() of a working map", x.stored(), 0);
        x.crash();
        x.commit(1);
        D.due("stored() of an empty version", x.stored(), 0);
        x.put(0x1a, 1);
        x.commit(1);
        D.due("stored() of a leaf", x.stored(), 0);
    }

    private static void theTrieItselfIsStored() {
        D.about("branches that are the tries, or are within the tries");
        NibbleTrie x = new NibbleTrie(1);
        pair(x, 1, 1);
        x.commit(9);
        D.due("stored(), the trie itself", x.stored(), 1);
        x = new NibbleTrie(1);
        pair(x, 0x1abc, 1);
        x.commit(9);
        D.due("stored(), below an extension", x.stored(), 1);
        pair(x, 0x1abd, 2);
        x.commit(9);
        D.due("stored(), below a branch below an extension", x.stored(), 3);
        x.put(1, 1);
        x.put(0x1ab, 1);
        x.put(0x1abc, 1);
        x.commit(9);
        D.due("stored(), below an extension below a branch", x.stored(), 4);
    }

    private static void branchesOfTheSameMapAreOne() {
        D.about("branches that are tries of the same map are one");
        NibbleTrie x = new NibbleTrie(3);
        pair(x, 1, 5);
        x.commit(9);
        x.put(0x10, 0);
        x.put(0x1f, 0);
        pair(x, 0x1abc, 5);
        D.due("commit(1), the same at the root and in depth 3", x.commit(1), 0);
        D.due("stored()", x.stored(), 1);
        pair(x, 0x1ab, 5);
        D.due("commit(2), not the same: 0xc is there, too", x.commit(2), 1);
        D.due("stored()", x.stored(), 2);
        x.put(0x1ab0, 0);
        x.put(0x1abf, 0);
        pair(x, 0x10, 5);
        pair(x, 0x1f00, 5);
        D.due("commit(2), the same in depths 1, 3 and 3", x.commit(2), 1);
        D.due("stored()", x.stored(), 3);
    }

    private static void whatIsDroppedIsNotStored() {
        D.about("STORED are the branches .. of kept versions (and no others)");
        for (int kept = 1; kept <= 3; kept++) {
            NibbleTrie x = new NibbleTrie(kept);
            for (int i = 1; i <= 6; i++) {
                pair(x, 0x1a, i);
                D.due("commit " + i, x.commit(2), 1);
                D.due("stored() after commit " + i, x.stored(), Math.min(i, kept));
            }
            D.due("uses of the last kept", x.uses(pairDigest(7 - kept)), 1);
            D.due("uses of what was dropped", x.uses(pairDigest(6 - kept)), 0);
            pair(x, 0x1a, 6 - kept);
            D.due("commit(1) of what was dropped", x.commit(1), -1);
            pair(x, 0x1a, 7 - kept);
            D.due("commit(1) of the last kept", x.commit(1), 0);
        }
    }

    private static void lessIsStoredThanBefore() {
        D.about("STORED are the branches .. of kept versions (when there are fewer than before)");
        NibbleTrie x = new NibbleTrie(1);
        pair(x, 0x1a, 1);
        pair(x, 0x1b, 2);
        x.commit(9);
        D.due("stored(), three branches", x.stored(), 3);
        pair(x, 0x1b, 0);
        x.commit(9);
        D.due("stored(), one branch", x.stored(), 1);
        D.due("uses of the one", x.uses(pairDigest(1)), 1);
        D.due("uses of what was beside it", x.uses(pairDigest(2)), 0);
        x.put(0x1a0, 0);
        x.commit(9);
        D.due("stored() of a leaf", x.stored(), 0);
        D.due("uses of the one", x.uses(pairDigest(1)), 0);
        x.put(0x1af, 0);
        x.commit(9);
        D.due("stored() of the empty map", x.stored(), 0);
        D.due("uses of the one", x.uses(pairDigest(1)), 0);
    }

    /** Sixteen keys have fifteen branches at most: where all part in two, four times. */
    private static void asManyBranchesAsCanBe() {
        D.about("STORED, USES and commit with fifteen branches");
        int[] bits = {0, 1, 0x10, 0x11, 0x100, 0x101, 0x110, 0x111};
        NibbleTrie x = new NibbleTrie(2);
        for (int i = 0; i < 8; i++) {
            x.put(0x10000 + bits[i], 2 * i + 1);
            x.put(0x11000 + bits[i], 2 * i + 2);
        }
        D.due("count(0)", x.count(0), 16);
        D.due("count(1)", x.count(1), 0);
        D.due("count(2)", x.count(2), 15);
        D.due("commit(16)", x.commit(16), 15);
        D.due("stored()", x.stored(), 15);
        long last = Words.digest(Words.branch(0, Words.row(0), Words.leaf(1, 14), Words.row(1), Words.leaf(1, 16)));
        D.due("uses of the last one", x.uses(last), 1);
        x.put(0x10000, 99);
        D.due("commit(5), those above it", x.commit(5), 4);
        D.due("stored()", x.stored(), 19);
        D.due("uses of the last one", x.uses(last), 1);
    }

    private static void usesOfNothing() {
        D.about("uses: 0 when there is none");
        NibbleTrie x = new NibbleTrie(2);
        for (long digest : new long[] {0, 1, -1, Long.MIN_VALUE, Long.MAX_VALUE}) {
            D.due("uses(" + digest + ") without a version", x.uses(digest), 0);
        }
        pair(x, 0x1a, 1);
        D.due("uses of what is not committed", x.uses(pairDigest(1)), 0);
        x.commit(9);
        D.due("uses of the branch", x.uses(pairDigest(1)), 1);
        for (int bit = 0; bit < 64; bit++) {
            D.due("uses with bit " + bit + " changed", x.uses(pairDigest(1) ^ 1L << bit), 0);
        }
        D.due("uses of the root", x.uses(x.rootAt(0)), 0);
        D.due("uses of a leaf", x.uses(Words.digest(Words.leaf(1, 1))), 0);
        D.due("uses(0)", x.uses(0), 0);
    }

    private static void usesByVersions() {
        D.about("one for each kept version whose trie is it or is an extension with it as its child");
        NibbleTrie x = new NibbleTrie(3);
        pair(x, 1, 1);
        x.commit(9);
        D.due("uses, the trie is it", x.uses(pairDigest(1)), 1);
        x.put(0x10, 0);
        x.put(0x1f, 0);
        pair(x, 0x1abc, 1);
        x.commit(9);
        D.due("uses, an extension", x.uses(pairDigest(1)), 2);
        x.commit(9);
        D.due("uses, the same version again", x.uses(pairDigest(1)), 3);
        x.commit(9);
        D.due("uses, one dropped", x.uses(pairDigest(1)), 3);
        x.put(0x1abc0, 0);
        x.commit(9);
        D.due("uses, one version is a leaf", x.uses(pairDigest(1)), 2);
        x.commit(9);
        x.commit(9);
        D.due("uses, all versions are leaves", x.uses(pairDigest(1)), 0);
    }

    private static void usesByChildren() {
        D.about("for each stored branch one for each of its children that is it or is an extension with it");
        NibbleTrie x = new NibbleTrie(2);
        for (int path = 0x10; path < 0x14; path++) {
            pair(x, path, 1);
        }
        for (int path = 0x1400; path < 0x1800; path += 0x100) {
            pair(x, path, 1);
        }
        x.commit(9);
        D.due("uses, four children and four extensions", x.uses(pairDigest(1)), 8);
        x.commit(9);
        D.due("uses, the same branch above in two versions", x.uses(pairDigest(1)), 8);
        x.put(0x14000, 0);
        x.commit(9);
        D.due("uses, two branches above", x.uses(pairDigest(1)), 15);
        x.crash();
        x.commit(9);
        D.due("uses, the first branch above dropped", x.uses(pairDigest(1)), 7);
    }

    /** The maps {"": 7, "0": 65940} and {"": 1257902171, "0": 80534} have one digest. */
    private static void usesOfOneDigestAreAddedUp() {
        D.about("The uses of all stored branches whose encodings have the digest, added up");
        long digest = Words.digest(Words.branch(7, Words.row(0), Words.leaf(1, 65940)));
        NibbleTrie x = new NibbleTrie(3);
        x.put(0x1a, 7);
        x.put(0x1a0, 65940);
        D.due("commit(2)", x.commit(2), 1);
        D.due("uses", x.uses(digest), 1);
        x.put(0x1b, 1257902171);
        x.put(0x1b0, 80534);
        D.due("commit(3)", x.commit(3), 2);
        D.due("stored()", x.stored(), 3);
        D.due("uses, one of them twice", x.uses(digest), 3);
    }
}
