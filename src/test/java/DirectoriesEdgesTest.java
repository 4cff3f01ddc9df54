/** The edges of promises 4, 5 and 12: a test for each sentence. */
public final class DirectoriesEdgesTest {
    private static final String FULL_TREE = "mount 0 0; mkdir 0 0; mkdir 0 1; write 0 0 1; write 0 1 2;"
            + "write 0 2 3; write 0 3 4; write 0 4 5; write 0 5 6; write 0 6 7; write 0 7 8";

    public static void main(String[] args) {
        promise04WithNoFileThere();
        promise04NotZeroOrOne();
        promise04ItIsThere();
        promise05AllFilesInIt();
        promise05TheNumberOfFilesThatWereInIt();
        promise05NotZeroOrOne();
        promise05ItIsNotThere();
        promise12TheEmptyAndTheFullSet();
        promise12WrongMounts();
        Due.end();
    }

    // "Makes directory d, with no file there."
    private static void promise04WithNoFileThere() {
        Run.of("mount 0 0; mkdir 0 0 = 0").sees(0, "directories 1 files 0 changes 0 contents 0 0 0 0 0 0 0 0");
        Run.of("mount 0 0; mkdir 0 1 = 0").sees(0, "directories 2 files 0 changes 0 contents 0 0 0 0 0 0 0 0");
        for (String between : new String[] {"", "; commit 0", "; unmount 0; mount 0 0"}) {
            for (int d = 0; d < 2; d++) {
                Run run = Run.of(FULL_TREE).then("rmdir 0 " + d + between);
                if (between.contains("unmount")) {
                    run.then("mkdir 0 " + (1 - d));
                }
                run.then("mkdir 0 " + d + " = 0; directories 0 = 3");
                for (int f = 4 * d; f < 4 * d + 4; f++) {
                    run.then("read 0 " + f + " = 0; grow 0 " + f + " 1 = NONE; remove 0 " + f + " = NONE");
                    run.then("write 0 " + f + " 0 = 0");
                }
            }
        }
    }

    // "Then d not 0 or 1 answers BAD_ARG"
    private static void promise04NotZeroOrOne() {
        for (int d : Scenes.NO_DIRECTORIES) {
            Run.refused(Scenes.EMPTY, "mkdir 0 " + d, LayerMounts.BAD_ARG);
            Run.refused(FULL_TREE, "mkdir 0 " + d, LayerMounts.BAD_ARG);
            Run.refused(Scenes.BUSY, "mkdir 1 " + d, LayerMounts.BAD_ARG);
        }
    }

    // "it is there answers NONE"
    private static void promise04ItIsThere() {
        for (int d = 0; d < 2; d++) {
            Run.refused("mount 0 0; mkdir 0 " + d, "mkdir 0 " + d, LayerMounts.NONE);
            Run.refused(FULL_TREE, "mkdir 0 " + d, LayerMounts.NONE);
            Run.refused(FULL_TREE + "; commit 0; mount 3 1", "mkdir 3 " + d, LayerMounts.NONE);
        }
        Run.of("mount 0 0; mkdir 0 0 = 0; mkdir 0 0 = NONE; mkdir 0 1 = 0; mkdir 0 1 = NONE; directories 0 = 3");
    }

    // "Directory d and all files in it are no longer there."
    private static void promise05AllFilesInIt() {
        Run.of(FULL_TREE).then("rmdir 0 0 = 4").sees(0, "directories 2 files 240 changes 4 contents 0 0 0 0 5 6 7 8");
        Run.of(FULL_TREE).then("rmdir 0 1 = 4").sees(0, "directories 1 files 15 changes 4 contents 1 2 3 4 0 0 0 0");
        Run.of(FULL_TREE).then("rmdir 0 1 = 4; rmdir 0 0 = 4")
                .sees(0, "directories 0 files 0 changes 0 contents 0 0 0 0 0 0 0 0");
        // Files that a layer has are no longer there either.
        Run.of(FULL_TREE).then("commit 0; mount 1 1; rmdir 1 1 = 4")
                .sees(1, "directories 1 files 15 changes 4 contents 1 2 3 4 0 0 0 0");
    }

    // "Otherwise the number of files that were in it."
    private static void promise05TheNumberOfFilesThatWereInIt() {
        Run.of("mount 0 0; mkdir 0 0; rmdir 0 0 = 0; mkdir 0 1; rmdir 0 1 = 0; directories 0 = 0");
        for (int d = 0; d < 2; d++) {
            for (int f = 4 * d; f < 4 * d + 4; f++) {
                Run.of("mount 0 0; mkdir 0 " + d + "; write 0 " + f + " 0; rmdir 0 " + d + " = 1");
                Run.of(FULL_TREE).then("remove 0 " + f + "; rmdir 0 " + d + " = 3");
            }
        }
        // Only its own, not those of the other directory.
        Run.of("mount 0 0; mkdir 0 0; mkdir 0 1; write 0 3 1; rmdir 0 1 = 0; rmdir 0 0 = 1");
        Run.of("mount 0 0; mkdir 0 0; mkdir 0 1; write 0 4 1; rmdir 0 0 = 0; rmdir 0 1 = 1");
        // A file counts once, also if it was written twice, and not if it was taken away.
        Run.of("mount 0 0; mkdir 0 1; write 0 4 1; write 0 4 2; write 0 5 1; remove 0 5; write 0 6 1; rename 0 6 7")
                .then("rmdir 0 1 = 2");
        // Those of the mount count, not those of the layer that it was begun on.
        Run.of(FULL_TREE).then("commit 0; remove 0 1; remove 0 2; rmdir 0 0 = 2; commit 0")
                .then("mkdir 0 0; write 0 3 1; rmdir 0 0 = 1");
    }

    // "Then d not 0 or 1 answers BAD_ARG"
    private static void promise05NotZeroOrOne() {
        for (int d : Scenes.NO_DIRECTORIES) {
            Run.refused(Scenes.EMPTY, "rmdir 0 " + d, LayerMounts.BAD_ARG);
            Run.refused(FULL_TREE, "rmdir 0 " + d, LayerMounts.BAD_ARG);
            Run.refused(Scenes.BUSY, "rmdir 1 " + d, LayerMounts.BAD_ARG);
        }
    }

    // "it is not there answers NONE"
    private static void promise05ItIsNotThere() {
        for (int d = 0; d < 2; d++) {
            Run.refused(Scenes.EMPTY, "rmdir 0 " + d, LayerMounts.NONE);
            Run.refused("mount 0 0; mkdir 0 " + (1 - d), "rmdir 0 " + d, LayerMounts.NONE);
            Run.refused(FULL_TREE + "; rmdir 0 " + d, "rmdir 0 " + d, LayerMounts.NONE);
            // It is there in the layer, but no longer in the mount.
            Run.refused(FULL_TREE + "; commit 0; rmdir 0 " + d, "rmdir 0 " + d, LayerMounts.NONE);
        }
    }

    // "The set of the directories that are there in mount m"
    private static void promise12TheEmptyAndTheFullSet() {
        Run.of("mount 0 0; directories 0 = 0; mkdir 0 1; directories 0 = 2; mkdir 0 0; directories 0 = 3")
                .then("rmdir 0 1; directories 0 = 1; rmdir 0 0; directories 0 = 0");
        Run.of(FULL_TREE).then("directories 0 = 3; commit 0; mount 3 1; directories 3 = 3")
                .then("rmdir 3 0; directories 3 = 2");
    }

    private static void promise12WrongMounts() {
        for (int m : Scenes.NO_MOUNTS) {
            Run.refused(FULL_TREE, "directories " + m, LayerMounts.BAD_ARG);
        }
        Run.refused(FULL_TREE, "directories 1", LayerMounts.UNUSED);
        Run.refused(FULL_TREE, "directories 3", LayerMounts.UNUSED);
        Run.refused(FULL_TREE + "; unmount 0", "directories 0", LayerMounts.UNUSED);
    }
}
