import java.math.BigInteger;
import java.util.Arrays;

/** Rows of words as the document tells them, put together by hand. */
final class Words {
    private static final BigInteger FACTOR = new BigInteger("9E3779B97F4A7C15", 16);

    private Words() {
    }

    static long[] row(long... words) {
        return words;
    }

    static long[] join(long[]... rows) {
        long[] all = new long[0];
        for (long[] row : rows) {
            int before = all.length;
            all = Arrays.copyOf(all, before + row.length);
            System.arraycopy(row, 0, all, before, row.length);
        }
        return all;
    }

    static long digest(long... words) {
        long h = words.length;
        for (long w : words) {
            h = BigInteger.valueOf(h ^ w).multiply(FACTOR).longValue();
            h ^= h >>> 29;
        }
        return h;
    }

    /** The encoding of a branch; children is n, reference, n, reference, .. with n as one word. */
    static long[] branch(long value, long[]... children) {
        long[] words = new long[0];
        for (int n = 0; n < 16; n++) {
            long[] reference = new long[0];
            for (int i = 0; i < children.length; i += 2) {
                if (children[i][0] == n) {
                    reference = children[i + 1];
                }
            }
            words = join(words, row(reference.length), reference);
        }
        return join(words, row(value));
    }

    static long[] leaf(int path, long value) {
        return row(2L * path + 1, value);
    }

    static long[] extension(int path, long[] branch) {
        return row(2L * path, digest(branch));
    }

    /** A proof: the reference with its count in front, and the encodings. */
    static long[] proof(long[] reference, long[]... branches) {
        return join(row(reference.length), reference, join(branches));
    }
}
