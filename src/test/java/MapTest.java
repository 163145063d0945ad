/** Promises 1 to 6: a new object, and the working map with its root and its parts. */
final class MapTest {
    private static final Due D = new Due();
    private static final int[] NO_PATHS = {
        Integer.MIN_VALUE, -65536, -16, -1, 0, 2, 15, 32, 255, 512, 4095, 8192, 65535, 131072, 0x100001,
        Integer.MAX_VALUE
    };
    private static final int[] EDGE_PATHS = {1, 16, 31, 256, 511, 4096, 8191, 65536, 131071};

    private MapTest() {
    }

    public static void main(String[] args) {
        promise1NewObject();
        promise1Kept();
        promise2Put();
        promise2SixteenKeys();
        promise3Get();
        promise4Size();
        promise5Root();
        promise5RootDependsOnTheMapAlone();
        promise6Count();
        D.finish();
    }

    private static void promise1NewObject() {
        D.about("promise 1, a new object");
        NibbleTrie x = new NibbleTrie(2);
        D.due("NONE", NibbleTrie.NONE, -1);
        D.due("versions()", x.versions(), 0);
        D.due("size()", x.size(), 0);
        D.due("root()", x.root(), 0);
        D.due("count(0)", x.count(0), 0);
        D.due("stored()", x.stored(), 0);
        D.due("word(0)", x.word(0), 0);
        D.due("alter(0, 0)", x.alter(0, 0), false);
        D.due("cut()", x.cut(), 0);
        D.due("verify(0, 1, 0)", x.verify(0, 1, 0), false);
        D.due("prove(0, 1)", x.prove(0, 1), -1);
        D.due("crash()", x.crash(), 0);
    }

    private static void promise1Kept() {
        D.about("promise 1, kept");
        int[] asked = {Integer.MIN_VALUE, -1, 0, 1, 2, 3, 4, 9, Integer.MAX_VALUE};
        int[] most = {1, 1, 1, 1, 2, 3, 3, 3, 3};
        for (int i = 0; i < asked.length; i++) {
            NibbleTrie x = new NibbleTrie(asked[i]);
            for (int commits = 1; commits <= 5; commits++) {
                x.commit(1);
                D.due("versions() with kept " + asked[i], x.versions(), Math.min(commits, most[i]));
            }
        }
    }

    private static void promise2Put() {
        D.about("promise 2, put");
        NibbleTrie x = new NibbleTrie(1);
        for (int key : NO_PATHS) {
            D.due("put(" + key + ", 1)", x.put(key, 1), 0);
            D.due("put(" + key + ", 0)", x.put(key, 0), 0);
        }
        D.due("size()", x.size(), 0);
        for (int key : EDGE_PATHS) {
            D.due("put(" + key + ", key)", x.put(key, key), 0);
            D.due("put(" + key + ", -1)", x.put(key, -1), key);
            D.due("put(" + key + ", MIN)", x.put(key, Integer.MIN_VALUE), -1);
            D.due("put(" + key + ", 5)", x.put(key, 5), Integer.MIN_VALUE);
        }
        D.due("size()", x.size(), EDGE_PATHS.length);
        for (int key : EDGE_PATHS) {
            D.due("put(" + key + ", 0)", x.put(key, 0), 5);
            D.due("put(" + key + ", 0) again", x.put(key, 0), 0);
        }
        D.due("size()", x.size(), 0);
        D.due("root()", x.root(), 0);
    }

    private static void promise2SixteenKeys() {
        D.about("promise 2, sixteen keys");
        NibbleTrie x = new NibbleTrie(1);
        for (int n = 0; n < 16; n++) {
            D.due("put", x.put(0x1abc0 + n, n + 1), 0);
        }
        long root = x.root();
        D.due("put(1, 9)", x.put(1, 9), 0);
        D.due("put(1, 0)", x.put(1, 0), 0);
        D.due("put(0x1ffff, 9)", x.put(0x1ffff, 9), 0);
        D.due("get(1)", x.get(1), 0);
        D.due("size()", x.size(), 16);
        D.due("root()", x.root(), root);
        D.due("put(0x1abcf, 99)", x.put(0x1abcf, 99), 16);
        D.due("put(0x1abc0, 0)", x.put(0x1abc0, 0), 1);
        D.due("put(1, 9)", x.put(1, 9), 0);
        D.due("get(1)", x.get(1), 9);
        D.due("get(0x1abcf)", x.get(0x1abcf), 99);
        D.due("get(0x1abc1)", x.get(0x1abc1), 2);
        D.due("size()", x.size(), 16);
    }

    private static void promise3Get() {
        D.about("promise 3, get");
        NibbleTrie x = new NibbleTrie(1);
        for (int i = 0; i < EDGE_PATHS.length; i++) {
            x.put(EDGE_PATHS[i], 100 + i);
        }
        for (int i = 0; i < EDGE_PATHS.length; i++) {
            D.due("get(" + EDGE_PATHS[i] + ")", x.get(EDGE_PATHS[i]), 100 + i);
        }
        for (int key : NO_PATHS) {
            D.due("get(" + key + ")", x.get(key), 0);
        }
        D.due("get(17)", x.get(17), 0);
        D.due("get(4097)", x.get(4097), 0);
        x.put(1, 0);
        D.due("get(1)", x.get(1), 0);
        D.due("get(16)", x.get(16), 101);
    }

    private static void promise4Size() {
        D.about("promise 4, size");
        NibbleTrie x = new NibbleTrie(1);
        x.put(0x1a5, 1);
        x.put(0x1a, 1);
        D.due("size()", x.size(), 2);
        x.put(0x1a5, 2);
        D.due("size() after another value", x.size(), 2);
        x.put(0x1a6, 0);
        D.due("size() after nothing was taken away", x.size(), 2);
        x.put(5, 1);
        D.due("size() after a wrong key", x.size(), 2);
        x.put(0x1a, 0);
        D.due("size()", x.size(), 1);
    }

    private static void promise5Root() {
        D.about("promise 5, root");
        NibbleTrie x = new NibbleTrie(1);
        x.put(0x1a5, -7);
        D.due("root() of a leaf", x.root(), Words.digest(Words.leaf(0x1a5, -7)));
        x.put(0x1a5, 0);
        x.put(1, 3);
        D.due("root() of the empty path", x.root(), Words.digest(Words.leaf(1, 3)));
        x.put(0x1c0de, 4);
        long[] two = Words.branch(3, Words.row(0xc), Words.leaf(0x10de, 4));
        D.due("root() of a branch", x.root(), Words.digest(Words.digest(two)));
        x.put(1, 0);
        x.put(0x1c0, 5);
        long[] low = Words.branch(5, Words.row(0xd), Words.leaf(0x1e, 4));
        D.due("root() of an extension", x.root(), Words.digest(Words.extension(0x1c0, low)));
        x.put(0x1c1, 6);
        long[] high = Words.branch(0, Words.row(0), Words.row(Words.digest(low)), Words.row(1), Words.leaf(1, 6));
        D.due("root() of branches", x.root(), Words.digest(Words.extension(0x1c, high)));
        x.put(0x1d, 1);
        long[] top = Words.branch(0, Words.row(0xc), Words.row(Words.digest(high)), Words.row(0xd), Words.leaf(1, 1));
        D.due("root() of three branches", x.root(), Words.digest(Words.digest(top)));
        x.put(0x1c1, 0);
        long[] wide = Words.branch(0, Words.row(0xc), Words.extension(0x10, low), Words.row(0xd), Words.leaf(1, 1));
        D.due("root() with an extension below", x.root(), Words.digest(Words.digest(wide)));
    }

    private static void promise5RootDependsOnTheMapAlone() {
        D.about("promise 5, the map alone");
        int[] keys = {1, 0x1f, 0x1f0, 0x1f00, 0x1f000, 0x1f001, 0x1e, 0x10, 0x1ff, 0x1f01};
        NibbleTrie up = new NibbleTrie(1);
        NibbleTrie down = new NibbleTrie(3);
        for (int i = 0; i < keys.length; i++) {
            up.put(keys[i], i + 1);
            down.put(keys[keys.length - 1 - i], keys.length - i);
            down.put(0x12340 + i, 1);
            down.commit(0);
            down.commit(99);
        }
        D.due("root() after crashes", down.root(), 0);
        for (int i = keys.length - 1; i >= 0; i--) {
            down.put(0x1abcd, 77);
            down.put(keys[i], -5);
            down.put(keys[i], i + 1);
            down.put(0x1abcd, 0);
        }
        D.due("root() in another order", down.root(), up.root());
    }

    private static void promise6Count() {
        D.about("promise 6, count");
        NibbleTrie x = new NibbleTrie(1);
        counts(x, 0, 0, 0);
        x.put(0x1abcd, 1);
        counts(x, 1, 0, 0);
        x.put(0x1abce, 1);
        counts(x, 2, 1, 1);
        x.put(1, 1);
        counts(x, 2, 1, 2);
        x.put(0x1bbcd, 1);
        x.put(0x1bbce, 1);
        counts(x, 4, 2, 3);
        x.put(1, 0);
        counts(x, 4, 2, 3);
        x.put(0x1a, 1);
        counts(x, 4, 2, 4);
        x.put(0x1bbcd, 0);
        counts(x, 3, 1, 3);
        x.put(0x1a, 0);
        counts(x, 3, 1, 2);
        x.put(0x1abce, 0);
        counts(x, 2, 0, 1);
        x.put(0x1bbce, 0);
        counts(x, 1, 0, 0);
        x.put(0x1abcd, 0);
        counts(x, 0, 0, 0);
        D.due("count(-1)", x.count(-1), -1);
        D.due("count(3)", x.count(3), -1);
        D.due("count(MIN)", x.count(Integer.MIN_VALUE), -1);
        D.due("count(MAX)", x.count(Integer.MAX_VALUE), -1);
        mostBranches();
    }

    private static void mostBranches() {
        NibbleTrie x = new NibbleTrie(1);
        int[] keys = {0x10000, 0x10001, 0x10010, 0x10011, 0x10100, 0x10101, 0x10110, 0x10111,
            0x11000, 0x11001, 0x11010, 0x11011, 0x11100, 0x11101, 0x11110, 0x11111};
        for (int key : keys) {
            x.put(key, 1);
        }
        counts(x, 16, 0, 15);
        D.due("commit(4)", x.commit(4), -1);
        counts(x, 0, 0, 0);
        for (int key : keys) {
            x.put(key, 1);
        }
        D.due("commit(5)", x.commit(5), 4);
        D.due("stored()", x.stored(), 4);
    }

    private static void counts(NibbleTrie x, int leaves, int extensions, int branches) {
        D.due("count(0)", x.count(0), leaves);
        D.due("count(1)", x.count(1), extensions);
        D.due("count(2)", x.count(2), branches);
    }
}
