/**
 * Trees of files in layers over each other, mounted for several users at once,
 * who change them without changing the layers, and make new layers.
 *
 * Every mount and every layer holds its whole tree, not its difference from
 * another one: trees are so small that copying one costs next to nothing, and a
 * change in one of them then can't reach any other.
 */
public final class LayerMounts {
    /** An argument is out of its range. */
    public static final int BAD_ARG = -1;
    /** There are 6 layers. */
    public static final int FULL = -2;
    /** The mount is not in use (for mount: it is). */
    public static final int UNUSED = -3;
    /** It is not there, or there already, or it can't be done. */
    public static final int NONE = -4;

    private static final int MOUNTS = 4;
    private static final int LAYERS = 6;
    private static final int DIRECTORIES = 2;
    private static final int FILES = 8;
    private static final int FILES_OF_ONE = 4;
    private static final int SET_OF_ONE = 15;
    private static final int TREES = MOUNTS + LAYERS;
    private static final int CONTENTS = TREES * FILES;

    // Trees of mounts and of layers stand in the same arrays, so that they can be
    // copied and compared alike: mount m has tree m, layer l has tree MOUNTS + l.
    private final int[] directoriesThere = new int[TREES];
    private final int[] filesThere = new int[TREES];
    // What stands here for a file that is not there has no meaning.
    private final int[] contents = new int[CONTENTS];

    private final boolean[] inUse = new boolean[MOUNTS];
    private final int[] begunOn = new int[MOUNTS];
    private final int[] baseOf = new int[LAYERS];
    private int layerCount;

    public LayerMounts() {
        layerCount = 1;
    }

    public int mount(int m, int l) {
        if (!isMount(m)) {
            return BAD_ARG;
        }
        if (inUse[m]) {
            return UNUSED;
        }
        if (!isLayer(l)) {
            return NONE;
        }
        copyTree(MOUNTS + l, m);
        begunOn[m] = l;
        inUse[m] = true;
        return 0;
    }

    public int unmount(int m) {
        int refused = refusalOf(m);
        if (refused != 0) {
            return refused;
        }
        inUse[m] = false;
        return 0;
    }

    public int mkdir(int m, int d) {
        int refused = refusalOf(m);
        if (refused != 0) {
            return refused;
        }
        if (!isDirectory(d)) {
            return BAD_ARG;
        }
        if (hasDirectory(m, d)) {
            return NONE;
        }
        directoriesThere[m] |= 1 << d;
        return 0;
    }

    public int rmdir(int m, int d) {
        int refused = refusalOf(m);
        if (refused != 0) {
            return refused;
        }
        if (!isDirectory(d)) {
            return BAD_ARG;
        }
        if (!hasDirectory(m, d)) {
            return NONE;
        }
        int inside = filesThere[m] & (SET_OF_ONE << (d * FILES_OF_ONE));
        filesThere[m] &= ~inside;
        directoriesThere[m] &= ~(1 << d);
        return sizeOf(inside);
    }

    public int write(int m, int f, int content) {
        int refused = refusalOf(m);
        if (refused != 0) {
            return refused;
        }
        if (!isFile(f)) {
            return BAD_ARG;
        }
        if (!hasDirectory(m, f / FILES_OF_ONE)) {
            return NONE;
        }
        return putFile(m, f, content);
    }

    public int grow(int m, int f, int x) {
        int refused = refusalOf(m);
        if (refused != 0) {
            return refused;
        }
        if (!isFile(f)) {
            return BAD_ARG;
        }
        if (!hasFile(m, f)) {
            return NONE;
        }
        contents[m * FILES + f] += x;
        return 0;
    }

    public int remove(int m, int f) {
        int refused = refusalOf(m);
        if (refused != 0) {
            return refused;
        }
        if (!isFile(f)) {
            return BAD_ARG;
        }
        if (!hasFile(m, f)) {
            return NONE;
        }
        takeFile(m, f);
        return 0;
    }

    public int rename(int m, int f, int g) {
        int refused = refusalOf(m);
        if (refused != 0) {
            return refused;
        }
        if (!isFile(f) || !isFile(g) || f == g) {
            return BAD_ARG;
        }
        if (!hasFile(m, f) || !hasDirectory(m, g / FILES_OF_ONE)) {
            return NONE;
        }
        takeFile(m, f);
        return putFile(m, g, contents[m * FILES + f]);
    }

    public int read(int m, int f) {
        // Here a refusal answers 0 as well: every code could be a content.
        if (refusalOf(m) != 0 || !isFile(f) || !hasFile(m, f)) {
            return 0;
        }
        return contents[m * FILES + f];
    }

    public int files(int m) {
        int refused = refusalOf(m);
        if (refused != 0) {
            return refused;
        }
        return filesThere[m];
    }

    public int directories(int m) {
        int refused = refusalOf(m);
        if (refused != 0) {
            return refused;
        }
        return directoriesThere[m];
    }

    public int commit(int m) {
        int refused = refusalOf(m);
        if (refused != 0) {
            return refused;
        }
        if (layerCount >= LAYERS) {
            return FULL;
        }
        int made = layerCount;
        copyTree(m, MOUNTS + made);
        baseOf[made] = begunOn[m];
        begunOn[m] = made;
        layerCount = made + 1;
        return made;
    }

    public int drop() {
        int highest = layerCount - 1;
        // A base is always older than what stands on it and so has a lower number:
        // the highest layer is no layer's base, and only mounts can hold it.
        if (highest == 0 || isMounted(highest)) {
            return NONE;
        }
        layerCount = highest;
        return highest;
    }

    public int layers() {
        return layerCount;
    }

    public int base(int l) {
        if (!isLayer(l) || l == 0) {
            return NONE;
        }
        return baseOf[l];
    }

    public int changes(int m) {
        int refused = refusalOf(m);
        if (refused != 0) {
            return refused;
        }
        int changed = differences(m, MOUNTS + begunOn[m]);
        return sizeOf(changed);
    }

    public int compare(int l, int k) {
        if (!isLayer(l) || !isLayer(k)) {
            return NONE;
        }
        return differences(MOUNTS + l, MOUNTS + k);
    }

    public int squash(int m) {
        // A mount holds its tree, no list of its changes: it has no shorter form.
        return refusalOf(m);
    }

    /** The code that a call with mount m answers before anything else, or 0. */
    private int refusalOf(int m) {
        if (!isMount(m)) {
            return BAD_ARG;
        }
        return inUse[m] ? 0 : UNUSED;
    }

    private static boolean isMount(int m) {
        return m >= 0 && m < MOUNTS;
    }

    private boolean isLayer(int l) {
        return l >= 0 && l < layerCount;
    }

    private static boolean isDirectory(int d) {
        return d >= 0 && d < DIRECTORIES;
    }

    private static boolean isFile(int f) {
        return f >= 0 && f < FILES;
    }

    private boolean isMounted(int l) {
        for (int m = 0; m < MOUNTS; m++) {
            if (inUse[m] && begunOn[m] == l) {
                return true;
            }
        }
        return false;
    }

    private boolean hasDirectory(int tree, int d) {
        return (directoriesThere[tree] & (1 << d)) != 0;
    }

    private boolean hasFile(int tree, int f) {
        return (filesThere[tree] & (1 << f)) != 0;
    }

    /** Answers 1 if the file was there before, else 0. */
    private int putFile(int tree, int f, int content) {
        int before = hasFile(tree, f) ? 1 : 0;
        filesThere[tree] |= 1 << f;
        contents[tree * FILES + f] = content;
        return before;
    }

    private void takeFile(int tree, int f) {
        filesThere[tree] &= ~(1 << f);
    }

    private void copyTree(int from, int to) {
        directoriesThere[to] = directoriesThere[from];
        filesThere[to] = filesThere[from];
        for (int f = 0; f < FILES; f++) {
            contents[to * FILES + f] = contents[from * FILES + f];
        }
    }

    /** The set of the files that are there in one tree only or differ in content. */
    private int differences(int tree, int other) {
        int differing = filesThere[tree] ^ filesThere[other];
        int inBoth = filesThere[tree] & filesThere[other];
        for (int f = 0; f < FILES; f++) {
            boolean both = (inBoth & (1 << f)) != 0;
            if (both && contents[tree * FILES + f] != contents[other * FILES + f]) {
                differing |= 1 << f;
            }
        }
        return differing;
    }

    private static int sizeOf(int set) {
        int size = 0;
        for (int f = 0; f < FILES; f++) {
            size += (set >> f) & 1;
        }
        return size;
    }
}
