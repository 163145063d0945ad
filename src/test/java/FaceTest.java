import java.lang.management.ManagementFactory;
import java.lang.reflect.Constructor;
import java.lang.reflect.Field;
import java.lang.reflect.Method;
import java.lang.reflect.Modifier;
import java.util.Set;
import java.util.TreeSet;

/** The public face as the document writes it, and how much room a run of calls takes. */
final class FaceTest {
    private static final Due D = new Due();
    private static final String[] FACE = {
        "public static final int NibbleTrie.NONE",
        "public NibbleTrie(int)",
        "public int NibbleTrie.put(int,int)",
        "public int NibbleTrie.get(int)",
        "public int NibbleTrie.size()",
        "public long NibbleTrie.root()",
        "public int NibbleTrie.count(int)",
        "public int NibbleTrie.commit(int)",
        "public int NibbleTrie.crash()",
        "public int NibbleTrie.versions()",
        "public int NibbleTrie.at(int,int)",
        "public long NibbleTrie.rootAt(int)",
        "public int NibbleTrie.stored()",
        "public int NibbleTrie.uses(long)",
        "public int NibbleTrie.prove(int,int)",
        "public long NibbleTrie.word(int)",
        "public boolean NibbleTrie.alter(int,long)",
        "public int NibbleTrie.cut()",
        "public boolean NibbleTrie.verify(long,int,int)"
    };

    private FaceTest() {
    }

    public static void main(String[] args) {
        face();
        room();
        D.finish();
    }

    private static void face() {
        D.about("the face");
        Set<String> found = new TreeSet<>();
        for (Field field : NibbleTrie.class.getDeclaredFields()) {
            addUnlessPrivate(found, field.getModifiers(), field.toString());
        }
        for (Constructor<?> constructor : NibbleTrie.class.getDeclaredConstructors()) {
            addUnlessPrivate(found, constructor.getModifiers(), constructor.toString());
        }
        for (Method method : NibbleTrie.class.getDeclaredMethods()) {
            addUnlessPrivate(found, method.getModifiers(), method.toString());
        }
        Set<String> want = new TreeSet<>(Set.of(FACE));
        D.due("the members " + found, found.equals(want), true);
        D.due("public final", NibbleTrie.class.getModifiers(), Modifier.PUBLIC | Modifier.FINAL);
    }

    private static void addUnlessPrivate(Set<String> found, int modifiers, String text) {
        if (!Modifier.isPrivate(modifiers)) {
            found.add(text);
        }
    }

    /** All rows are made in the constructor: the calls themselves make nothing. */
    private static void room() {
        D.about("room");
        // The first round loads classes, which takes room that is not the calls'.
        allocated();
        allCalls(new NibbleTrie(3));
        allocated();
        long before = allocated();
        NibbleTrie x = new NibbleTrie(3);
        long made = allocated();
        allCalls(x);
        long after = allocated();
        D.due("the constructor's bytes " + (made - before), made - before < 20000, true);
        D.due("the calls' bytes " + (after - made), after - made < 1000, true);
    }

    private static long allocated() {
        com.sun.management.ThreadMXBean bean =
                (com.sun.management.ThreadMXBean) ManagementFactory.getThreadMXBean();
        return bean.getCurrentThreadAllocatedBytes();
    }

    private static void allCalls(NibbleTrie x) {
        for (int i = 0; i < 30; i++) {
            x.put(0x10000 + 0x0111 * i, i + 1);
            x.put(0x10000 + 0x1001 * (i % 16), 5);
            x.get(1);
            x.size();
            x.root();
            x.count(2);
            x.commit(99);
            x.at(1, 16);
            x.rootAt(1);
            x.stored();
            x.uses(x.root());
            x.prove(0, 0x10000);
            x.word(1);
            x.alter(0, 1);
            x.verify(x.rootAt(0), 0x10000, 5);
            x.cut();
        }
        x.crash();
    }
}
