import java.util.ArrayList;
import java.util.List;
import java.util.Map;
import java.util.Objects;
import java.util.TreeMap;

/** The document told a second time, with maps, for tests to compare answers with. */
final class Model {
    static final String[] CALLS = {
        "mount", "unmount", "mkdir", "rmdir", "write", "grow", "remove", "rename", "read",
        "files", "directories", "commit", "drop", "layers", "base", "changes", "compare", "squash"};

    private static final int BAD_ARG = -1;
    private static final int FULL = -2;
    private static final int UNUSED = -3;
    private static final int NONE = -4;

    /** For each directory that is there, its files that are there with their contents. */
    private static final class Tree extends TreeMap<Integer, Map<Integer, Integer>> {
        private static final long serialVersionUID = 1L;

        Tree copy() {
            Tree copy = new Tree();
            forEach((d, files) -> copy.put(d, new TreeMap<>(files)));
            return copy;
        }

        Integer content(int f) {
            return containsKey(f / 4) ? get(f / 4).get(f) : null;
        }
    }

    private final List<Tree> layers = new ArrayList<>(List.of(new Tree()));
    private final List<Integer> bases = new ArrayList<>(List.of(NONE));
    private final Map<Integer, Tree> mounts = new TreeMap<>();
    private final Map<Integer, Integer> begun = new TreeMap<>();

    int answer(String call, int a, int b, int c) {
        switch (call) {
            case "layers":
                return layers.size();
            case "drop":
                return drop();
            case "base":
                return noLayer(a) ? NONE : bases.get(a);
            case "compare":
                return noLayer(a) || noLayer(b) ? NONE : differing(layers.get(a), layers.get(b));
            case "read":
                return mounts.containsKey(a) && !noFile(b) && mounts.get(a).content(b) != null
                        ? mounts.get(a).content(b) : 0;
            default:
                break;
        }
        if (a < 0 || a > 3) {
            return BAD_ARG;
        }
        if (mounts.containsKey(a) == call.equals("mount")) {
            return UNUSED;
        }
        switch (call) {
            case "mount":
                if (noLayer(b)) {
                    return NONE;
                }
                mounts.put(a, layers.get(b).copy());
                begun.put(a, b);
                return 0;
            case "unmount":
                mounts.remove(a);
                begun.remove(a);
                return 0;
            case "commit":
                return commit(a);
            case "squash":
                return 0;
            case "changes":
                return Integer.bitCount(differing(mounts.get(a), layers.get(begun.get(a))));
            case "files":
                return differing(mounts.get(a), new Tree());
            case "directories":
                return mounts.get(a).keySet().stream().mapToInt(d -> 1 << d).sum();
            case "mkdir":
            case "rmdir":
                return directory(call, mounts.get(a), b);
            default:
                return file(call, mounts.get(a), b, c);
        }
    }

    private int directory(String call, Tree tree, int d) {
        if (d != 0 && d != 1) {
            return BAD_ARG;
        }
        if (tree.containsKey(d) == call.equals("mkdir")) {
            return NONE;
        }
        if (call.equals("rmdir")) {
            return tree.remove(d).size();
        }
        tree.put(d, new TreeMap<>());
        return 0;
    }

    private int file(String call, Tree tree, int f, int c) {
        if (noFile(f) || call.equals("rename") && (noFile(c) || f == c)) {
            return BAD_ARG;
        }
        if (call.equals("write")) {
            return put(tree, f, c);
        }
        if (tree.content(f) == null || call.equals("rename") && !tree.containsKey(c / 4)) {
            return NONE;
        }
        int content = tree.content(f);
        switch (call) {
            case "grow":
                put(tree, f, content + c);
                return 0;
            case "remove":
                tree.get(f / 4).remove(f);
                return 0;
            default:
                tree.get(f / 4).remove(f);
                return put(tree, c, content);
        }
    }

    private static int put(Tree tree, int f, int content) {
        if (!tree.containsKey(f / 4)) {
            return NONE;
        }
        return tree.get(f / 4).put(f, content) == null ? 0 : 1;
    }

    private int commit(int m) {
        if (layers.size() == 6) {
            return FULL;
        }
        layers.add(mounts.get(m).copy());
        bases.add(begun.get(m));
        begun.put(m, layers.size() - 1);
        return layers.size() - 1;
    }

    private int drop() {
        int highest = layers.size() - 1;
        if (highest == 0 || begun.containsValue(highest) || bases.contains(highest)) {
            return NONE;
        }
        layers.remove(highest);
        bases.remove(highest);
        return highest;
    }

    private static int differing(Tree tree, Tree other) {
        int set = 0;
        for (int f = 0; f < 8; f++) {
            if (!Objects.equals(tree.content(f), other.content(f))) {
                set += 1 << f;
            }
        }
        return set;
    }

    private boolean noLayer(int l) {
        return l < 0 || l >= layers.size();
    }

    private static boolean noFile(int f) {
        return f < 0 || f > 7;
    }
}
