import java.util.ArrayList;
import java.util.Arrays;
import java.util.HashSet;
import java.util.List;
import java.util.Map;
import java.util.Set;
import java.util.TreeMap;

/**
 * The document read word for word, with the Java library and without a thought of cost: paths are
 * texts of hexadecimal digits, and a trie is nothing but its map.
 */
final class Model {
    private static final class Refused extends Exception {
        private static final long serialVersionUID = 1L;
    }

    private final int most;
    private TreeMap<String, Integer> working = new TreeMap<>();
    private final List<TreeMap<String, Integer>> versions = new ArrayList<>();
    private List<Long> proof = new ArrayList<>();

    Model(int kept) {
        most = kept < 1 ? 1 : kept > 3 ? 3 : kept;
    }

    static boolean isPath(long number) {
        if (number < 1 || number > 0x1ffff) {
            return false;
        }
        return Long.toHexString(number).charAt(0) == '1' && Long.toHexString(number).length() <= 5
                && (number == 1 || number >= 16);
    }

    private static String path(long number) {
        return Long.toHexString(number).substring(1);
    }

    private static long number(String path) {
        return Long.parseLong("1" + path, 16);
    }

    int put(int key, int value) {
        if (!isPath(key) || (!working.containsKey(path(key)) && value != 0 && working.size() == 16)) {
            return 0;
        }
        Integer before = value == 0 ? working.remove(path(key)) : working.put(path(key), value);
        return before == null ? 0 : before;
    }

    int get(int key) {
        return isPath(key) ? working.getOrDefault(path(key), 0) : 0;
    }

    int size() {
        return working.size();
    }

    long root() {
        return Words.digest(reference(working));
    }

    private static String common(Map<String, Integer> map) {
        String common = null;
        for (String path : map.keySet()) {
            if (common == null) {
                common = path;
            }
            while (!path.startsWith(common)) {
                common = common.substring(0, common.length() - 1);
            }
        }
        return common;
    }

    /** The map of the paths that begin with the front, with the front taken off. */
    private static TreeMap<String, Integer> below(Map<String, Integer> map, String front) {
        TreeMap<String, Integer> part = new TreeMap<>();
        for (Map.Entry<String, Integer> entry : map.entrySet()) {
            if (entry.getKey().startsWith(front)) {
                part.put(entry.getKey().substring(front.length()), entry.getValue());
            }
        }
        return part;
    }

    private static boolean isBranch(Map<String, Integer> map) {
        return map.size() > 1 && common(map).isEmpty();
    }

    private static boolean isExtension(Map<String, Integer> map) {
        return map.size() > 1 && !common(map).isEmpty();
    }

    private static TreeMap<String, Integer> child(Map<String, Integer> branch, int nibble) {
        return below(branch, Integer.toHexString(nibble));
    }

    static long[] encoding(Map<String, Integer> map) {
        if (map.size() == 1) {
            String path = map.keySet().iterator().next();
            return Words.row(2 * number(path) + 1, map.get(path));
        }
        if (isExtension(map)) {
            return Words.join(Words.row(2 * number(common(map))), reference(below(map, common(map))));
        }
        long[] words = new long[0];
        for (int n = 0; n < 16; n++) {
            long[] reference = reference(child(map, n));
            words = Words.join(words, Words.row(reference.length), reference);
        }
        return Words.join(words, Words.row(map.getOrDefault("", 0)));
    }

    static long[] reference(Map<String, Integer> map) {
        if (map.isEmpty()) {
            return new long[0];
        }
        long[] encoding = encoding(map);
        return encoding.length == 2 ? encoding : Words.row(Words.digest(encoding));
    }

    int count(int kind) {
        return kind < 0 || kind > 2 ? -1 : count(working, kind);
    }

    private static int count(Map<String, Integer> map, int kind) {
        if (map.isEmpty()) {
            return 0;
        }
        if (map.size() == 1) {
            return kind == 0 ? 1 : 0;
        }
        if (isExtension(map)) {
            return (kind == 1 ? 1 : 0) + count(below(map, common(map)), kind);
        }
        int total = kind == 2 ? 1 : 0;
        for (int n = 0; n < 16; n++) {
            total += count(child(map, n), kind);
        }
        return total;
    }

    /** Adds all branches that are the trie or are within it; as maps, so that the same are one. */
    private static void addBranches(Map<String, Integer> map, Set<Map<String, Integer>> branches) {
        if (isExtension(map)) {
            addBranches(below(map, common(map)), branches);
        } else if (isBranch(map)) {
            branches.add(map);
            for (int n = 0; n < 16; n++) {
                addBranches(child(map, n), branches);
            }
        }
    }

    private Set<Map<String, Integer>> storedBranches() {
        Set<Map<String, Integer>> branches = new HashSet<>();
        for (Map<String, Integer> version : versions) {
            addBranches(version, branches);
        }
        return branches;
    }

    int commit(int writes) {
        Set<Map<String, Integer>> fresh = new HashSet<>();
        addBranches(working, fresh);
        fresh.removeAll(storedBranches());
        if (writes < fresh.size() + 1) {
            crash();
            return -1;
        }
        versions.add(0, new TreeMap<>(working));
        if (versions.size() > most) {
            versions.remove(most);
        }
        return fresh.size();
    }

    int crash() {
        working = versions.isEmpty() ? new TreeMap<>() : new TreeMap<>(versions.get(0));
        return working.size();
    }

    int versions() {
        return versions.size();
    }

    private boolean isKept(int k) {
        return 0 <= k && k < versions.size();
    }

    int at(int k, int key) {
        return isKept(k) && isPath(key) ? versions.get(k).getOrDefault(path(key), 0) : 0;
    }

    long rootAt(int k) {
        return isKept(k) ? Words.digest(reference(versions.get(k))) : 0;
    }

    int stored() {
        return storedBranches().size();
    }

    int uses(long digest) {
        int total = 0;
        for (Map<String, Integer> branch : storedBranches()) {
            if (Words.digest(encoding(branch)) == digest) {
                total += usesOf(branch);
            }
        }
        return total;
    }

    private int usesOf(Map<String, Integer> branch) {
        int total = 0;
        for (Map<String, Integer> version : versions) {
            total += leadsTo(version, branch) ? 1 : 0;
        }
        for (Map<String, Integer> above : storedBranches()) {
            for (int n = 0; n < 16; n++) {
                total += leadsTo(child(above, n), branch) ? 1 : 0;
            }
        }
        return total;
    }

    private static boolean leadsTo(Map<String, Integer> map, Map<String, Integer> branch) {
        return map.equals(branch) || (isExtension(map) && below(map, common(map)).equals(branch));
    }

    /** The digests of all stored branches, for tests that ask for their uses. */
    List<Long> digests() {
        List<Long> digests = new ArrayList<>();
        for (Map<String, Integer> branch : storedBranches()) {
            digests.add(Words.digest(encoding(branch)));
        }
        digests.sort(null);
        return digests;
    }

    int prove(int k, int key) {
        if (!isKept(k) || !isPath(key)) {
            return -1;
        }
        Map<String, Integer> map = versions.get(k);
        List<Long> made = new ArrayList<>();
        addWords(made, Words.row(reference(map).length));
        addWords(made, reference(map));
        for (int length = 0; length <= path(key).length(); length++) {
            String front = path(key).substring(0, length);
            if (isBranchAt(map, front)) {
                addWords(made, encoding(below(map, front)));
            }
        }
        proof = made;
        return proof.size();
    }

    /** A branch stands at a path when the paths that begin with it part there. */
    private static boolean isBranchAt(Map<String, Integer> map, String front) {
        return isBranch(below(map, front));
    }

    private static void addWords(List<Long> list, long[] words) {
        Arrays.stream(words).forEach(list::add);
    }

    long word(int i) {
        return 0 <= i && i < proof.size() ? proof.get(i) : 0;
    }

    int proofWords() {
        return proof.size();
    }

    boolean alter(int i, long w) {
        if (i < 0 || i >= proof.size()) {
            return false;
        }
        proof.set(i, w);
        return true;
    }

    int cut() {
        if (!proof.isEmpty()) {
            proof.remove(proof.size() - 1);
        }
        return proof.size();
    }

    boolean verify(long root, int key, int value) {
        if (!isPath(key)) {
            return false;
        }
        List<Long> left = new ArrayList<>(proof);
        try {
            long shown = walk(left, root, path(key));
            return left.isEmpty() && shown == value;
        } catch (Refused refused) {
            return false;
        }
    }

    private static long take(List<Long> words) throws Refused {
        demand(!words.isEmpty());
        return words.remove(0);
    }

    private static long[] takeReference(List<Long> words) throws Refused {
        long many = take(words);
        demand(0 <= many && many <= 2);
        long[] reference = new long[(int) many];
        for (int i = 0; i < many; i++) {
            reference[i] = take(words);
        }
        return reference;
    }

    private static void demand(boolean holds) throws Refused {
        if (!holds) {
            throw new Refused();
        }
    }

    private static long walk(List<Long> words, long root, String key) throws Refused {
        long[] present = takeReference(words);
        demand(Words.digest(present) == root);
        String left = key;
        while (present.length != 0) {
            if (present.length == 2) {
                long h = present[0];
                boolean leaf = h % 2 != 0;
                demand(h > 0 && isPath(h / 2) && h != 2);
                if (leaf) {
                    return left.equals(path(h / 2)) ? present[1] : 0;
                }
                if (!left.startsWith(path(h / 2))) {
                    return 0;
                }
                left = left.substring(path(h / 2).length());
                present = Words.row(present[1]);
            } else {
                long[] encoding = new long[0];
                long[][] children = new long[16][];
                for (int n = 0; n < 16; n++) {
                    children[n] = takeReference(words);
                    encoding = Words.join(encoding, Words.row(children[n].length), children[n]);
                }
                long value = take(words);
                demand(Words.digest(Words.join(encoding, Words.row(value))) == present[0]);
                if (left.isEmpty()) {
                    return value;
                }
                present = children[Character.digit(left.charAt(0), 16)];
                left = left.substring(1);
            }
        }
        return 0;
    }
}
