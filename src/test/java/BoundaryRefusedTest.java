import java.util.ArrayList;
import java.util.List;
import java.util.function.Consumer;

/** "A call that is refused changes nothing", and no more does a call that only asks. */
final class BoundaryRefusedTest {
    private static final Due D = new Due();
    private static final int MAX = Integer.MAX_VALUE;
    private static final int MIN = Integer.MIN_VALUE;
    private static final int[] NO_PATHS = {MIN, -131071, -16, -1, 0, 2, 15, 32, 255, 512, 4095, 8192, 65535, 131072,
        0x100000, MAX};
    private static final int[] KEYS = {1, 0x1a, 0x1a0, 0x1af, 0x1b0, 0x1f, 0x1ffff};

    private BoundaryRefusedTest() {
    }

    public static void main(String[] args) {
        putWithoutAPath();
        putIntoAFullMap();
        putOfNothing();
        proveWithoutAVersion();
        proveWithoutAPath();
        alterWithoutAWord();
        cutWithoutAWord();
        verifyThatRefuses();
        callsThatOnlyAsk();
        D.finish();
    }

    /** Two versions and a working map, all different, and a proof of the older version. */
    private static NibbleTrie some() {
        NibbleTrie x = new NibbleTrie(2);
        x.put(0x1a0, 1);
        x.put(0x1af, 2);
        x.commit(9);
        x.put(0x1b0, 3);
        x.commit(9);
        x.put(0x1a, 4);
        x.prove(1, 0x1a0);
        return x;
    }

    private static NibbleTrie full() {
        NibbleTrie x = some();
        for (int i = 0; i < 12; i++) {
            x.put(0x1c000 + i, 5);
        }
        D.due("size() of a full map", x.size(), 16);
        return x;
    }

    /** All that the object answers, and in the end what its changing calls answer. */
    private static List<Long> answers(NibbleTrie x) {
        List<Long> all = new ArrayList<>();
        all.add((long) x.size());
        all.add(x.root());
        for (int kind = 0; kind < 3; kind++) {
            all.add((long) x.count(kind));
        }
        all.add((long) x.versions());
        all.add((long) x.stored());
        for (int key : KEYS) {
            all.add((long) x.get(key));
            for (int k = 0; k < 3; k++) {
                all.add((long) x.at(k, key));
            }
        }
        for (int k = 0; k < 3; k++) {
            all.add(x.rootAt(k));
        }
        for (int i = 0; i < 30; i++) {
            all.add(x.word(i));
        }
        addLastCalls(all, x);
        return all;
    }

    private static void addLastCalls(List<Long> all, NibbleTrie x) {
        all.add((long) x.uses(x.word(2)));
        all.add(x.verify(x.rootAt(1), 0x1a0, 1) ? 1L : 0L);
        all.add((long) x.cut());
        all.add((long) x.commit(20));
        all.add((long) x.stored());
        all.add((long) x.put(0x1a, 0));
        all.add((long) x.crash());
        all.add(x.root());
    }

    private static void changesNothing(String call, NibbleTrie asked, NibbleTrie other, Consumer<NibbleTrie> refused) {
        refused.accept(asked);
        D.due("the answers after " + call, answers(asked).equals(answers(other)), true);
    }

    private static void putWithoutAPath() {
        D.about("put, refused when key is no path's number, changes nothing");
        for (int key : NO_PATHS) {
            for (int value : new int[] {MIN, -1, 0, 1, MAX}) {
                String call = "put(" + key + ", " + value + ")";
                changesNothing(call, some(), some(), x -> D.due(call, x.put(key, value), 0));
                changesNothing(call, full(), full(), x -> D.due(call, x.put(key, value), 0));
            }
        }
    }

    private static void putIntoAFullMap() {
        D.about("put, refused when 16 keys are there, changes nothing");
        for (int key : new int[] {1, 0x10, 0x1af0, 0x1b, 0x1c, 0x1c00, 0x1cfff, 0x1ffff}) {
            for (int value : new int[] {MIN, -1, 1, MAX}) {
                String call = "put(" + key + ", " + value + ")";
                changesNothing(call, full(), full(), x -> D.due(call, x.put(key, value), 0));
            }
        }
    }

    private static void putOfNothing() {
        D.about("put of 0 for a key that is not there changes nothing");
        for (int key : new int[] {1, 0x10, 0x1af0, 0x1b, 0x1cfff, 0x1ffff}) {
            String call = "put(" + key + ", 0)";
            changesNothing(call, some(), some(), x -> D.due(call, x.put(key, 0), 0));
            changesNothing(call, full(), full(), x -> D.due(call, x.put(key, 0), 0));
            changesNothing(call, new NibbleTrie(1), new NibbleTrie(1), x -> D.due(call, x.put(key, 0), 0));
        }
    }

    private static void proveWithoutAVersion() {
        D.about("prove, refused when there is no kept version k, changes nothing");
        for (int k : new int[] {MIN, -1, 2, 3, MAX}) {
            for (int key : new int[] {1, 0x1a0, 0, MIN}) {
                String call = "prove(" + k + ", " + key + ")";
                changesNothing(call, some(), some(), x -> D.due(call, x.prove(k, key), -1));
            }
        }
    }

    private static void proveWithoutAPath() {
        D.about("prove, refused when key is no path's number, changes nothing");
        for (int key : NO_PATHS) {
            for (int k = 0; k < 2; k++) {
                int version = k;
                String call = "prove(" + k + ", " + key + ")";
                changesNothing(call, some(), some(), x -> D.due(call, x.prove(version, key), -1));
            }
        }
    }

    private static void alterWithoutAWord() {
        D.about("alter, false when there is no word i, changes nothing");
        int words = some().cut() + 1;
        for (int i : new int[] {MIN, -1, words, words + 1, 198, 199, 200, MAX}) {
            String call = "alter(" + i + ", 77)";
            changesNothing(call, some(), some(), x -> D.due(call, x.alter(i, 77), false));
        }
        changesNothing("alter(0, 77)", new NibbleTrie(1), new NibbleTrie(1),
                x -> D.due("alter(0, 77)", x.alter(0, 77), false));
    }

    private static void cutWithoutAWord() {
        D.about("cut, when there was none, changes nothing");
        changesNothing("cut()", new NibbleTrie(1), new NibbleTrie(1), x -> D.due("cut()", x.cut(), 0));
    }

    private static void verifyThatRefuses() {
        D.about("verify changes nothing, whatever it answers");
        long root = some().rootAt(1);
        for (int key : new int[] {1, 0x1a, 0x1af, 0x1b, 2, 0, MIN}) {
            for (long other : new long[] {root, 0, ~root}) {
                String call = "verify(" + other + ", " + key + ", 9)";
                changesNothing(call, some(), some(), x -> D.due(call, x.verify(other, key, 9), false));
            }
        }
        changesNothing("a true verify", some(), some(),
                x -> D.due("verify(root, 0x1a0, 1)", x.verify(root, 0x1a0, 1), true));
    }

    private static void callsThatOnlyAsk() {
        D.about("calls that only ask change nothing");
        for (int n : new int[] {MIN, -1, 0, 1, 2, 3, 0x1a0, MAX}) {
            changesNothing("get(" + n + ")", some(), some(), x -> x.get(n));
            changesNothing("count(" + n + ")", some(), some(), x -> x.count(n));
            changesNothing("at(" + n + ", 1)", some(), some(), x -> x.at(n, 1));
            changesNothing("at(0, " + n + ")", some(), some(), x -> x.at(0, n));
            changesNothing("rootAt(" + n + ")", some(), some(), x -> x.rootAt(n));
            changesNothing("uses(" + n + ")", some(), some(), x -> x.uses(n));
            changesNothing("word(" + n + ")", some(), some(), x -> x.word(n));
        }
        changesNothing("root()", some(), some(), x -> x.root());
        changesNothing("stored()", some(), some(), x -> x.stored());
    }
}
