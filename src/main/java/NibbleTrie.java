/**
 * A store of versions of a map from paths of nibbles to values, with a root number that depends on
 * the map alone and with proofs against that number. DOC.md of the project says what it promises.
 *
 * <p>Only the maps are held. A trie is in normal form and so follows from its map; which branches
 * are stored, and how often they are used, is counted anew from the kept maps whenever it is asked.
 */
public final class NibbleTrie {
    public static final int NONE = -1;

    private static final int NIBBLES = 16;
    private static final int LONGEST_PATH = 4;
    private static final int MOST_KEYS = 16;
    private static final int MOST_KEPT = 3;
    // A branch parts its rows into two groups or more, so n rows have n - 1 branches at most.
    private static final int MOST_BRANCHES = MOST_KEYS - 1;
    // Sixteen children with a count and two words each, and the value.
    private static final int MOST_BRANCH_WORDS = 3 * NIBBLES + 1;
    // A branch has a path shorter than some key's, so one way meets at most one for each length 0 .. 3.
    private static final int MOST_PROOF_WORDS = 3 + LONGEST_PATH * MOST_BRANCH_WORDS;

    private static final long DIGEST_FACTOR = 0x9E3779B97F4A7C15L;

    private static final int LEAVES = 0;
    private static final int EXTENSIONS = 1;
    private static final int BRANCHES = 2;

    private final Trie working = new Trie();
    private final Trie[] kept;
    private int keptNow = 0;
    private final Proof proof = new Proof();

    public NibbleTrie(int kept) {
        int most = Math.max(1, Math.min(MOST_KEPT, kept));
        this.kept = new Trie[most];
        for (int k = 0; k < most; k++) {
            this.kept[k] = new Trie();
        }
    }

    public int put(int key, int value) {
        if (!Path.isNumber(key)) {
            return 0;
        }
        return working.change(key, value);
    }

    public int get(int key) {
        return working.map.valueOf(key);
    }

    public int size() {
        return working.map.rows;
    }

    public long root() {
        return working.rootNumber();
    }

    public int count(int kind) {
        switch (kind) {
            case LEAVES:
                return working.leaves;
            case EXTENSIONS:
                return working.extensions;
            case BRANCHES:
                return working.branches;
            default:
                return NONE;
        }
    }

    public int commit(int writes) {
        int fresh = branchesToWrite();
        if (writes < fresh + 1) {
            goDown();
            return NONE;
        }
        keepWorking();
        return fresh;
    }

    public int crash() {
        goDown();
        return working.map.rows;
    }

    public int versions() {
        return keptNow;
    }

    public int at(int k, int key) {
        return isKept(k) ? kept[k].map.valueOf(key) : 0;
    }

    public long rootAt(int k) {
        return isKept(k) ? kept[k].rootNumber() : 0;
    }

    public int stored() {
        int total = 0;
        for (int k = 0; k < keptNow; k++) {
            for (int branch = 0; branch < kept[k].branches; branch++) {
                if (isFirstOfItsKind(k, branch)) {
                    total++;
                }
            }
        }
        return total;
    }

    public int uses(long digest) {
        int total = 0;
        for (int k = 0; k < keptNow; k++) {
            for (int branch = 0; branch < kept[k].branches; branch++) {
                if (isUse(k, branch) && kept[k].digestOf(branch) == digest) {
                    total++;
                }
            }
        }
        return total;
    }

    public int prove(int k, int key) {
        if (!isKept(k) || !Path.isNumber(key)) {
            return NONE;
        }
        proof.length = kept[k].writeProof(key, proof.words);
        return proof.length;
    }

    public long word(int i) {
        return proof.has(i) ? proof.words[i] : 0;
    }

    public boolean alter(int i, long w) {
        if (!proof.has(i)) {
            return false;
        }
        proof.words[i] = w;
        return true;
    }

    public int cut() {
        if (proof.length > 0) {
            proof.length--;
        }
        return proof.length;
    }

    public boolean verify(long root, int key, int value) {
        return Path.isNumber(key) && proof.shows(root, key, value);
    }

    private boolean isKept(int k) {
        return k >= 0 && k < keptNow;
    }

    private int branchesToWrite() {
        int fresh = 0;
        for (int branch = 0; branch < working.branches; branch++) {
            boolean again = working.hasAmongFirst(branch, working, branch);
            if (!again && !isAmongVersions(keptNow, working, branch)) {
                fresh++;
            }
        }
        return fresh;
    }

    /** Whether one of the versions 0 .. limit - 1 has the branch of that trie. */
    private boolean isAmongVersions(int limit, Trie trie, int branch) {
        for (int k = 0; k < limit; k++) {
            if (kept[k].hasAmongFirst(kept[k].branches, trie, branch)) {
                return true;
            }
        }
        return false;
    }

    /** Of branches that are one, only the first that is met stands for the stored branch. */
    private boolean isFirstOfItsKind(int k, int branch) {
        return !isAmongVersions(k, kept[k], branch) && !kept[k].hasAmongFirst(branch, kept[k], branch);
    }

    /** A version uses its topmost branch; below, a stored branch uses its children only once. */
    private boolean isUse(int k, int branch) {
        int above = kept[k].parent[branch];
        return above == NONE || isFirstOfItsKind(k, above);
    }

    private void keepWorking() {
        int last = kept.length - 1;
        Trie dropped = kept[last];
        for (int k = last; k > 0; k--) {
            kept[k] = kept[k - 1];
        }
        kept[0] = dropped;
        dropped.becomeLike(working);
        keptNow = Math.min(keptNow + 1, kept.length);
    }

    /** As long as there is no version, the trie at 0 has never been written and is the empty one. */
    private void goDown() {
        working.becomeLike(kept[0]);
    }

    private static long digest(long[] words, int from, int many) {
        long h = many;
        for (int i = from; i < from + many; i++) {
            h = (h ^ words[i]) * DIGEST_FACTOR;
            h = h ^ (h >>> 29);
        }
        return h;
    }

    /** Paths are held as their numbers: a 1 and then four bits for each nibble. */
    private static final class Path {
        static final int EMPTY = 1;

        static boolean isNumber(long number) {
            return number == EMPTY
                    || (number >= 0x10 && number <= 0x1f)
                    || (number >= 0x100 && number <= 0x1ff)
                    || (number >= 0x1000 && number <= 0x1fff)
                    || (number >= 0x10000 && number <= 0x1ffff);
        }

        static int length(int path) {
            if (path < 0x10) {
                return 0;
            }
            if (path < 0x100) {
                return 1;
            }
            if (path < 0x1000) {
                return 2;
            }
            return path < 0x10000 ? 3 : 4;
        }

        static int nibble(int path, int place) {
            return (path >> (4 * (length(path) - place - 1))) & 15;
        }

        /** The path of the first nibbles, as many as told. */
        static int front(int path, int many) {
            return path >> (4 * (length(path) - many));
        }

        /** The path without its first nibbles, as many as told. */
        static int without(int path, int many) {
            int bits = 4 * (length(path) - many);
            return (1 << bits) | (path & ((1 << bits) - 1));
        }

        static boolean begins(int path, int front) {
            int many = length(front);
            return length(path) >= many && front(path, many) == front;
        }

        static int commonLength(int a, int b) {
            int shorter = Math.min(length(a), length(b));
            int common = 0;
            while (common < shorter && nibble(a, common) == nibble(b, common)) {
                common++;
            }
            return common;
        }

        /** Rises in the order of the paths by their nibbles, a path before those that it begins. */
        static int order(int path) {
            int length = length(path);
            return ((path << (4 * (LONGEST_PATH - length))) << 3) | length;
        }
    }

    /**
     * A map, its rows in the order of the paths: paths that begin alike stand side by side, and what
     * the first and the last of some rows have in common, all rows between them have.
     */
    private static final class PathMap {
        final int[] paths = new int[MOST_KEYS];
        final int[] values = new int[MOST_KEYS];
        int rows = 0;

        int rowOf(int path) {
            for (int row = 0; row < rows; row++) {
                if (paths[row] == path) {
                    return row;
                }
            }
            return NONE;
        }

        int valueOf(int path) {
            int row = rowOf(path);
            return row == NONE ? 0 : values[row];
        }

        void insert(int path, int value) {
            if (rows == MOST_KEYS) {
                return;
            }
            int row = rows;
            while (row > 0 && Path.order(paths[row - 1]) > Path.order(path)) {
                paths[row] = paths[row - 1];
                values[row] = values[row - 1];
                row--;
            }
            paths[row] = path;
            values[row] = value;
            rows++;
        }

        void remove(int gone) {
            rows--;
            for (int row = gone; row < rows; row++) {
                paths[row] = paths[row + 1];
                values[row] = values[row + 1];
            }
        }

        void copy(PathMap other) {
            rows = other.rows;
            System.arraycopy(other.paths, 0, paths, 0, rows);
            System.arraycopy(other.values, 0, values, 0, rows);
        }

        boolean endsAt(int row, int depth) {
            return Path.length(paths[row]) == depth;
        }

        /** Where the rows from there on, whose paths have the nibble at that depth, have their end. */
        int endOfChild(int from, int end, int depth, int nibble) {
            int row = from;
            while (row < end && Path.nibble(paths[row], depth) == nibble) {
                row++;
            }
            return row;
        }
    }

    /**
     * The trie of a map. A part of it is told by the rows of the map from .. end - 1 that it is over
     * and by how many nibbles are taken off their fronts. Its branches are listed, each one before
     * those below it; a branch that is there twice is listed twice.
     */
    private static final class Trie {
        final PathMap map = new PathMap();
        int leaves = 0;
        int extensions = 0;
        int branches = 0;
        final int[] parent = new int[MOST_BRANCHES];
        private final int[] firstRow = new int[MOST_BRANCHES];
        private final int[] endRow = new int[MOST_BRANCHES];
        private final int[] depth = new int[MOST_BRANCHES];
        private final long[] topReference = new long[2];
        // One row for each depth, since a branch is encoded while those above it are half written.
        private final long[][] drafts = new long[LONGEST_PATH][MOST_BRANCH_WORDS];

        int change(int key, int value) {
            int row = map.rowOf(key);
            if (row == NONE) {
                if (value != 0) {
                    map.insert(key, value);
                    list();
                }
                return 0;
            }
            int before = map.values[row];
            if (value == 0) {
                map.remove(row);
                list();
            } else {
                map.values[row] = value;
            }
            return before;
        }

        void becomeLike(Trie other) {
            map.copy(other.map);
            leaves = other.leaves;
            extensions = other.extensions;
            branches = other.branches;
            System.arraycopy(other.parent, 0, parent, 0, branches);
            System.arraycopy(other.firstRow, 0, firstRow, 0, branches);
            System.arraycopy(other.endRow, 0, endRow, 0, branches);
            System.arraycopy(other.depth, 0, depth, 0, branches);
        }

        private void list() {
            leaves = 0;
            extensions = 0;
            branches = 0;
            listPart(0, map.rows, 0, NONE);
        }

        private void listPart(int from, int end, int taken, int above) {
            if (from == end) {
                return;
            }
            if (end - from == 1) {
                leaves++;
                return;
            }
            int common = Path.commonLength(map.paths[from], map.paths[end - 1]);
            if (common > taken) {
                extensions++;
            }
            listBranch(from, end, common, above);
        }

        private void listBranch(int from, int end, int taken, int above) {
            if (taken >= LONGEST_PATH || branches == MOST_BRANCHES) {
                return;
            }
            int branch = branches;
            branches++;
            firstRow[branch] = from;
            endRow[branch] = end;
            depth[branch] = taken;
            parent[branch] = above;
            int next = firstChildRow(from, taken);
            for (int nibble = 0; nibble < NIBBLES; nibble++) {
                int start = next;
                next = map.endOfChild(start, end, taken, nibble);
                listPart(start, next, taken + 1, branch);
            }
        }

        /** The row that ends at the branch comes first: it is the branch's value and in no child. */
        private int firstChildRow(int from, int taken) {
            return map.endsAt(from, taken) ? from + 1 : from;
        }

        long rootNumber() {
            int many = writeReference(0, map.rows, 0, topReference, 0);
            return digest(topReference, 0, many);
        }

        long digestOf(int branch) {
            return branchDigest(firstRow[branch], endRow[branch], depth[branch]);
        }

        private long branchDigest(int from, int end, int taken) {
            if (taken >= LONGEST_PATH) {
                return 0;
            }
            long[] draft = drafts[taken];
            int many = writeBranch(from, end, taken, draft, 0);
            return digest(draft, 0, many);
        }

        /** Writes the encoding of a branch into the row of words; answers how many words it has. */
        private int writeBranch(int from, int end, int taken, long[] words, int start) {
            int place = start;
            int next = firstChildRow(from, taken);
            for (int nibble = 0; nibble < NIBBLES; nibble++) {
                int first = next;
                next = map.endOfChild(first, end, taken, nibble);
                int many = writeReference(first, next, taken + 1, words, place + 1);
                words[place] = many;
                place += 1 + many;
            }
            words[place] = map.endsAt(from, taken) ? map.values[from] : 0;
            return place + 1 - start;
        }

        /** Writes the reference of a part into the row of words; answers how many words it has. */
        private int writeReference(int from, int end, int taken, long[] words, int start) {
            if (from == end) {
                return 0;
            }
            if (end - from == 1) {
                words[start] = 2L * Path.without(map.paths[from], taken) + 1;
                words[start + 1] = map.values[from];
                return 2;
            }
            int common = Path.commonLength(map.paths[from], map.paths[end - 1]);
            long below = branchDigest(from, end, common);
            if (common == taken) {
                words[start] = below;
                return 1;
            }
            words[start] = 2L * Path.without(Path.front(map.paths[from], common), taken);
            words[start + 1] = below;
            return 2;
        }

        /** Writes the proof of the key into the row of words; answers how many words it has. */
        int writeProof(int key, long[] words) {
            int many = writeReference(0, map.rows, 0, words, 1);
            words[0] = many;
            int place = 1 + many;
            for (int branch = 0; branch < branches; branch++) {
                if (Path.begins(key, pathTo(branch))) {
                    place += writeBranch(firstRow[branch], endRow[branch], depth[branch], words, place);
                }
            }
            return place;
        }

        private int pathTo(int branch) {
            return Path.front(map.paths[firstRow[branch]], depth[branch]);
        }

        /** Whether one of the first branches listed here, as many as told, is that of the other trie. */
        boolean hasAmongFirst(int many, Trie other, int branch) {
            for (int mine = 0; mine < many; mine++) {
                if (isSame(mine, other, branch)) {
                    return true;
                }
            }
            return false;
        }

        /** Compares the maps, not the digests: different maps can have the same digest. */
        private boolean isSame(int mine, Trie other, int branch) {
            int many = endRow[mine] - firstRow[mine];
            if (many != other.endRow[branch] - other.firstRow[branch]) {
                return false;
            }
            for (int i = 0; i < many; i++) {
                int row = firstRow[mine] + i;
                int otherRow = other.firstRow[branch] + i;
                int path = Path.without(map.paths[row], depth[mine]);
                int otherPath = Path.without(other.map.paths[otherRow], other.depth[branch]);
                if (path != otherPath || map.values[row] != other.map.values[otherRow]) {
                    return false;
                }
            }
            return true;
        }
    }

    /** The words of the proof that was made last, and the walk by which they show a value. */
    private static final class Proof {
        private static final int WALKING = 0;
        private static final int ENDED = 1;
        private static final int REFUSED = 2;
        // Each step but the last takes a nibble or more off the path that is left.
        private static final int MOST_STEPS = LONGEST_PATH + 1;

        final long[] words = new long[MOST_PROOF_WORDS];
        int length = 0;

        private int state = WALKING;
        private int next = 0;
        private int left = Path.EMPTY;
        private int reference = 0;
        private int referenceWords = 0;
        private long shown = 0;

        boolean has(int i) {
            return i >= 0 && i < length;
        }

        boolean shows(long root, int key, long value) {
            state = WALKING;
            left = key;
            takeTopReference(root);
            for (int step = 0; step < MOST_STEPS && state == WALKING; step++) {
                if (referenceWords == 0) {
                    end(0);
                } else if (referenceWords == 1) {
                    followDigest(words[reference]);
                } else {
                    followPair(words[reference], words[reference + 1]);
                }
            }
            return state == ENDED && next == length && shown == value;
        }

        private void end(long value) {
            state = ENDED;
            shown = value;
        }

        /** Whether a count of words and as many words as it says are there. */
        private boolean hasReference(int place) {
            return has(place) && words[place] >= 0 && words[place] <= 2 && place + words[place] < length;
        }

        private void takeTopReference(long root) {
            if (!hasReference(0)) {
                state = REFUSED;
                return;
            }
            reference = 1;
            referenceWords = (int) words[0];
            next = 1 + referenceWords;
            if (digest(words, 1, referenceWords) != root) {
                state = REFUSED;
            }
        }

        private void followPair(long head, long tail) {
            long number = head >> 1;
            boolean leaf = (head & 1) == 1;
            if (!Path.isNumber(number) || (!leaf && number == Path.EMPTY)) {
                state = REFUSED;
                return;
            }
            int path = (int) number;
            if (leaf) {
                end(left == path ? tail : 0);
            } else if (!Path.begins(left, path)) {
                end(0);
            } else {
                left = Path.without(left, Path.length(path));
                reference++;
                referenceWords = 1;
            }
        }

        private void followDigest(long wanted) {
            int branch = next;
            int child = left == Path.EMPTY ? NONE : Path.nibble(left, 0);
            int place = branch;
            for (int nibble = 0; nibble < NIBBLES; nibble++) {
                if (!hasReference(place)) {
                    state = REFUSED;
                    return;
                }
                if (nibble == child) {
                    reference = place + 1;
                    referenceWords = (int) words[place];
                }
                place += 1 + (int) words[place];
            }
            if (!has(place) || digest(words, branch, place + 1 - branch) != wanted) {
                state = REFUSED;
                return;
            }
            next = place + 1;
            if (child == NONE) {
                end(words[place]);
            } else {
                left = Path.without(left, 1);
            }
        }
    }
}
