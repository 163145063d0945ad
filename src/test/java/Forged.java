/** Objects whose proofs are rows of words of the test's own, made by altering and cutting true ones. */
final class Forged {
    private static final int[] LONG_WAY = {0x10000, 0x10001, 0x10002, 0x10003, 0x10010, 0x10020, 0x10030, 0x10040,
        0x10100, 0x10200, 0x10300, 0x10400, 0x11000, 0x12000, 0x13000, 0x14000};

    private Forged() {
    }

    /** A version of sixteen keys: four branches lie on the way of 0x10000, so its proof is long. */
    static NibbleTrie withLongProof() {
        NibbleTrie x = new NibbleTrie(1);
        for (int key : LONG_WAY) {
            x.put(key, key);
        }
        x.commit(99);
        return x;
    }

    /** Makes the proof of such an object the row of words. */
    static void load(NibbleTrie x, long... words) {
        int many = x.prove(0, 0x10000);
        for (int i = 0; i < words.length; i++) {
            if (!x.alter(i, words[i])) {
                throw new IllegalStateException("only " + many + " words can be altered");
            }
        }
        for (int i = words.length; i < many; i++) {
            x.cut();
        }
    }

    static NibbleTrie with(long... words) {
        NibbleTrie x = withLongProof();
        load(x, words);
        return x;
    }
}
