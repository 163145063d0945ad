import java.util.List;
import java.util.Random;

/** Long runs of calls, each answer compared with that of the model; the seeds are fixed. */
final class AgainstModelTest {
    private static final int RUNS = 600;
    private static final int CALLS = 512;
    private static final Due D = new Due();

    private final Random random;
    private final NibbleTrie x;
    private final Model m;
    private final int nibbles;
    private final int values;

    private AgainstModelTest(int seed) {
        random = new Random(seed);
        int kept = random.nextInt(6) - 1;
        x = new NibbleTrie(kept);
        m = new Model(kept);
        nibbles = new int[] {1, 2, 2, 3, 4, 16}[random.nextInt(6)];
        values = new int[] {1, 2, 3, 1000000}[random.nextInt(4)];
    }

    public static void main(String[] args) {
        for (int run = 0; run < RUNS && D.wrong() == 0; run++) {
            D.about("run " + run);
            AgainstModelTest test = new AgainstModelTest(run);
            for (int call = 0; call < CALLS && D.wrong() == 0; call++) {
                test.oneCall();
            }
        }
        D.finish();
    }

    private int key() {
        if (random.nextInt(12) == 0) {
            return random.nextInt(140000) - 3;
        }
        int key = 1;
        int length = random.nextInt(3) == 0 ? random.nextInt(5) : 2 + random.nextInt(3);
        for (int i = 0; i < length; i++) {
            key = 16 * key + random.nextInt(nibbles);
        }
        return key;
    }

    private int value() {
        if (random.nextInt(3) == 0) {
            return 0;
        }
        return random.nextInt(40) == 0 ? random.nextInt() : 1 + random.nextInt(values);
    }

    private int version() {
        return random.nextInt(5) - 1;
    }

    private int place() {
        return random.nextInt(m.proofWords() + 3) - 1;
    }

    private long anyWord() {
        switch (random.nextInt(4)) {
            case 0:
                return random.nextInt(4) - 1;
            case 1:
                return m.word(place());
            case 2:
                return 2L * key() + random.nextInt(2);
            default:
                return random.nextLong();
        }
    }

    private long digest() {
        List<Long> digests = m.digests();
        return digests.isEmpty() ? random.nextInt(2) : digests.get(random.nextInt(digests.size()));
    }

    private void oneCall() {
        int kind = random.nextInt(100);
        if (kind < 40) {
            changeMap();
        } else if (kind < 58) {
            askMap();
        } else if (kind < 80) {
            askVersions();
        } else {
            askProof();
        }
    }

    private void changeMap() {
        int kind = random.nextInt(40);
        if (kind < 32) {
            int key = key();
            int value = value();
            D.due("put(" + key + ", " + value + ")", x.put(key, value), m.put(key, value));
        } else if (kind < 39) {
            int writes = random.nextInt(3) == 0 ? random.nextInt(6) - 1 : 20;
            D.due("commit(" + writes + ")", x.commit(writes), m.commit(writes));
        } else {
            D.due("crash()", x.crash(), m.crash());
        }
    }

    private void askMap() {
        int kind = random.nextInt(5) - 1;
        int key = key();
        switch (random.nextInt(4)) {
            case 0:
                D.due("get(" + key + ")", x.get(key), m.get(key));
                break;
            case 1:
                D.due("size()", x.size(), m.size());
                break;
            case 2:
                D.due("root()", x.root(), m.root());
                break;
            default:
                D.due("count(" + kind + ")", x.count(kind), m.count(kind));
        }
    }

    private void askVersions() {
        int k = version();
        int key = key();
        switch (random.nextInt(6)) {
            case 0:
                D.due("versions()", x.versions(), m.versions());
                break;
            case 1:
                D.due("at(" + k + ", " + key + ")", x.at(k, key), m.at(k, key));
                break;
            case 2:
                D.due("rootAt(" + k + ")", x.rootAt(k), m.rootAt(k));
                break;
            case 3:
                D.due("stored()", x.stored(), m.stored());
                break;
            default:
                long digest = digest();
                D.due("uses(" + digest + ")", x.uses(digest), m.uses(digest));
        }
    }

    private void askProof() {
        int k = version();
        int key = key();
        switch (random.nextInt(10)) {
            case 0:
            case 1:
            case 2:
                D.due("prove(" + k + ", " + key + ")", x.prove(k, key), m.prove(k, key));
                compareProofs();
                verify(m.rootAt(k), key, m.at(k, key));
                break;
            case 3:
                int i = place();
                D.due("word(" + i + ")", x.word(i), m.word(i));
                break;
            case 4:
                int j = place();
                long w = anyWord();
                D.due("alter(" + j + ", " + w + ")", x.alter(j, w), m.alter(j, w));
                break;
            case 5:
                D.due("cut()", x.cut(), m.cut());
                break;
            case 6:
                forge();
                break;
            default:
                verify(m.rootAt(k), key, random.nextBoolean() ? m.at(k, key) : value());
        }
    }

    private void compareProofs() {
        for (int i = 0; i <= m.proofWords(); i++) {
            D.due("word(" + i + ")", x.word(i), m.word(i));
        }
    }

    private void verify(long root, int key, int value) {
        String call = "verify(" + root + ", " + key + ", " + value + ")";
        D.due(call, x.verify(root, key, value), m.verify(root, key, value));
    }

    private void alterBoth(int i, long w) {
        D.due("alter(" + i + ", " + w + ")", x.alter(i, w), m.alter(i, w));
    }

    /** A top branch is made right again after a word of it was changed, so that the walk goes on. */
    private void forge() {
        if (m.word(0) == 1 && m.proofWords() >= 19) {
            alterBoth(2 + random.nextInt(m.proofWords() - 2), anyWord());
            int end = endOfBranch(2);
            if (end <= m.proofWords()) {
                alterBoth(1, Words.digest(words(2, end)));
            }
        }
        int many = (int) Math.max(0, Math.min(2, m.word(0)));
        long root = Words.digest(words(1, 1 + many));
        int key = key();
        for (int value = 0; value < 3; value++) {
            verify(root, key, value);
        }
        verify(root, key, (int) m.word(place()));
    }

    private int endOfBranch(int start) {
        int place = start;
        for (int n = 0; n < 16; n++) {
            place += 1 + (int) Math.max(0, Math.min(2, m.word(place)));
        }
        return place + 1;
    }

    private long[] words(int from, int end) {
        long[] words = new long[end - from];
        for (int i = from; i < end; i++) {
            words[i - from] = m.word(i);
        }
        return words;
    }
}
