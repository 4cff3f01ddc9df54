/** States in which the edges are tried, told as runs of calls. */
final class Scenes {
    /** Nothing has been called. */
    static final String NEW = "";

    /** Mount 0 on layer 0, with nothing there. */
    static final String EMPTY = "mount 0 0";

    /**
     * Layers 0 to 2. Mount 0 on layer 2 with both directories and files 0, 4, 5 and 7; mount 1 on
     * layer 1 with directory 0 and files 0 and 1; mount 2 was in use and is not, mount 3 never was.
     */
    static final String BUSY = "mount 0 0; mkdir 0 0; mkdir 0 1; write 0 0 10; write 0 1 0;"
            + "write 0 4 14; write 0 7 -1; commit 0; mount 1 1; rmdir 1 1; write 1 0 11;"
            + "mount 2 1; write 2 2 22; unmount 2; write 0 5 15; remove 0 1; commit 0; grow 0 4 1";

    /** Six layers, and every mount in use: 0 and 3 on layer 5, 1 on layer 0, 2 on layer 3. */
    static final String SIX_LAYERS = "mount 0 0; mkdir 0 0; mkdir 0 1; write 0 0 1; write 0 1 2;"
            + "write 0 2 3; write 0 3 4; write 0 4 5; write 0 5 6; write 0 6 7; write 0 7 8; commit 0;"
            + "grow 0 0 1; commit 0; remove 0 1; commit 0; rmdir 0 1; commit 0;"
            + "mkdir 0 1; write 0 4 0; commit 0; mount 1 0; mount 2 3; grow 2 7 5; mount 3 5; rename 3 4 6";

    /** SIX_LAYERS without layers 4 and 5: mount 1 on layer 0, mount 2 on layer 3. */
    static final String DROPPED = SIX_LAYERS + "; unmount 0; unmount 3; drop; drop";

    static final String[] ALL = {NEW, EMPTY, BUSY, SIX_LAYERS, DROPPED};

    static final int MIN = Integer.MIN_VALUE;
    static final int MAX = Integer.MAX_VALUE;

    // Multiples of 32 and what is near them: a shift by them is a shift by a small number.
    static final int[] NO_MOUNTS = {-1, 4, 5, 32, 35, -29, MIN, MAX};
    static final int[] NO_DIRECTORIES = {-1, 2, 3, 32, 33, -32, -31, MIN, MAX};
    static final int[] NO_FILES = {-1, 8, 9, 32, 36, 39, -32, -28, MIN, MAX};

    private Scenes() {
    }

    /** Every call with mount m but read, with arguments that are right and that are wrong. */
    static String[] callsWith(int m) {
        return new String[] {
            "unmount " + m,
            "mkdir " + m + " 0", "mkdir " + m + " 1", "mkdir " + m + " 2", "mkdir " + m + " -1",
            "rmdir " + m + " 0", "rmdir " + m + " 1", "rmdir " + m + " 2", "rmdir " + m + " -1",
            "write " + m + " 0 1", "write " + m + " 7 1", "write " + m + " 8 1", "write " + m + " -1 1",
            "grow " + m + " 0 1", "grow " + m + " 7 1", "grow " + m + " 8 1", "grow " + m + " -1 1",
            "remove " + m + " 0", "remove " + m + " 7", "remove " + m + " 8", "remove " + m + " -1",
            "rename " + m + " 0 1", "rename " + m + " 0 0", "rename " + m + " 8 0", "rename " + m + " 0 -1",
            "files " + m, "directories " + m, "commit " + m, "changes " + m, "squash " + m};
    }
}
