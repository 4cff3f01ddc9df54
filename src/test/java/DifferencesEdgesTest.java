/** The edges of promises 17 to 19: a test for each sentence. */
public final class DifferencesEdgesTest {
    private static final String BOTH = "mount 0 0; mkdir 0 0; mkdir 0 1";

    public static void main(String[] args) {
        promise17NoneAndAll();
        promise17ThereInOneOnly();
        promise17TheirContentsDiffer();
        promise17TakenBack();
        promise17TheLayerItWasBegunOn();
        promise17WrongMounts();
        promise18NoneAndAll();
        promise18InTheSameSense();
        promise18NoSuchLayer();
        promise19NothingToSquash();
        promise19NothingIsSeen();
        promise19WrongMounts();
        Due.end();
    }

    // "How many files have a difference": 0 to 8
    private static void promise17NoneAndAll() {
        Run.of(Scenes.EMPTY).then("changes 0 = 0");
        // A directory that is there in one tree only is no file.
        Run.of(BOTH).then("changes 0 = 0; commit 0; rmdir 0 0; rmdir 0 1; changes 0 = 0");
        Run run = Run.of(BOTH);
        for (int f = 0; f < 8; f++) {
            run.then("write 0 " + f + " 0; changes 0 = " + (f + 1));
        }
        run.then("changes 0 = 8; commit 0; changes 0 = 0");
        for (int f = 7; f >= 0; f--) {
            run.then("remove 0 " + f + "; changes 0 = " + (8 - f));
        }
        run.then("changes 0 = 8; commit 0 = 2; changes 0 = 0");
    }

    // "they are there in one only"
    private static void promise17ThereInOneOnly() {
        for (int f = 0; f < 8; f++) {
            // A content of 0 is another thing than a file that is not there.
            Run.of(BOTH).then("write 0 " + f + " 0; changes 0 = 1; commit 0; changes 0 = 0")
                    .then("remove 0 " + f + "; changes 0 = 1; commit 0; changes 0 = 0");
            Run.of(BOTH).then("write 0 " + f + " 0; commit 0; rmdir 0 " + f / 4 + "; changes 0 = 1; mkdir 0 " + f / 4)
                    .then("changes 0 = 1");
        }
        Run.of(BOTH).then("write 0 0 5; commit 0; rename 0 0 7; changes 0 = 2; rename 0 7 4; changes 0 = 2");
    }

    // "or their contents differ"
    private static void promise17TheirContentsDiffer() {
        int[] contents = {Scenes.MIN, Scenes.MIN + 1, -1, 0, 1, 65536, Scenes.MAX};
        for (int before : contents) {
            for (int after : contents) {
                Run.of(BOTH).then("write 0 3 1; write 0 4 " + before + "; commit 0; write 0 4 " + after)
                        .then("changes 0 = " + (before == after ? 0 : 1));
            }
        }
        Run.of(BOTH).then("write 0 7 MAX; commit 0; grow 0 7 1; changes 0 = 1; grow 0 7 1; changes 0 = 1");
    }

    private static void promise17TakenBack() {
        String scene = BOTH + "; write 0 2 9; write 0 5 0; commit 0";
        for (String there : new String[] {
            "write 0 2 8; write 0 2 9", "remove 0 2; write 0 2 9", "remove 0 5; write 0 5 0",
            "rename 0 2 6; rename 0 6 2", "grow 0 2 MIN; grow 0 2 MIN", "write 0 0 1; remove 0 0",
            "rmdir 0 0; mkdir 0 0; write 0 2 9", "rmdir 0 1; mkdir 0 1; write 0 5 0"}) {
            Run.of(scene).then(there).then("changes 0 = 0; commit 0 = 2; compare 1 2 = 0");
        }
    }

    // "between the trees of mount m and of the layer it was begun on"
    private static void promise17TheLayerItWasBegunOn() {
        Run.of(BOTH).then("write 0 0 1; commit 0; write 0 1 1; commit 0; mount 1 0; mount 2 1; mount 3 2")
                .then("changes 0 = 0; changes 1 = 0; changes 2 = 0; changes 3 = 0")
                .then("remove 2 0; rmdir 3 0; mkdir 1 0; write 1 7 1 = NONE; write 1 3 1; write 1 2 1; write 1 0 1")
                .then("changes 0 = 0; changes 1 = 3; changes 2 = 1; changes 3 = 2; write 0 0 2")
                .then("changes 0 = 1; changes 3 = 2");
    }

    private static void promise17WrongMounts() {
        for (int m : Scenes.NO_MOUNTS) {
            Run.refused(Scenes.BUSY, "changes " + m, LayerMounts.BAD_ARG);
        }
        Run.refused(Scenes.BUSY, "changes 2", LayerMounts.UNUSED);
        Run.refused(Scenes.BUSY, "changes 3", LayerMounts.UNUSED);
        Run.unseen(Scenes.BUSY, "changes 1 = 3");
    }

    // "The set of the files that differ between the trees of the layers l and k": none to all
    private static void promise18NoneAndAll() {
        for (int l = 0; l < 6; l++) {
            Run.of(Scenes.SIX_LAYERS).then("compare " + l + " " + l + " = 0");
        }
        int[][] sets = {
            {0, 255, 255, 253, 13, 29},
            {255, 0, 1, 3, 243, 243},
            {255, 1, 0, 2, 242, 242},
            {253, 3, 2, 0, 240, 240},
            {13, 243, 242, 240, 0, 16},
            {29, 243, 242, 240, 16, 0}};
        for (int l = 0; l < 6; l++) {
            for (int k = 0; k < 6; k++) {
                Run.unseen(Scenes.SIX_LAYERS, "compare " + l + " " + k + " = " + sets[l][k]);
            }
        }
    }

    // "in the same sense"
    private static void promise18InTheSameSense() {
        for (int f = 0; f < 8; f++) {
            String set = " = " + (1 << f);
            // Directories alone are no difference; a file with content 0 is one, in either order.
            Run.of(BOTH).then("commit 0; compare 0 1 = 0; compare 1 0 = 0; write 0 " + f + " 0; commit 0")
                    .then("compare 1 2" + set + "; compare 2 1" + set + "; compare 0 2" + set + "; compare 2 0" + set)
                    .then("grow 0 " + f + " MIN; commit 0; compare 2 3" + set + "; compare 3 2" + set)
                    .then("grow 0 " + f + " MIN; commit 0; compare 2 4 = 0; compare 4 2 = 0; compare 3 4" + set);
        }
        // What the mounts on the layers have changed since is no matter.
        Run.of(BOTH).then("commit 0; mount 1 0; write 0 0 1; mkdir 1 1; write 1 7 1; compare 0 1 = 0");
    }

    // "NONE if there is no such layer."
    private static void promise18NoSuchLayer() {
        int[] never = {Scenes.MIN, -6, -4, -1, 6, 7, 32, Scenes.MAX};
        for (String scene : Scenes.ALL) {
            for (int bad : never) {
                Run.refused(scene, "compare " + bad + " 0", LayerMounts.NONE);
                Run.refused(scene, "compare 0 " + bad, LayerMounts.NONE);
                Run.refused(scene, "compare " + bad + " " + bad, LayerMounts.NONE);
            }
        }
        for (int l = 0; l < 4; l++) {
            for (int bad = 4; bad < 6; bad++) {
                Run.refused(Scenes.DROPPED, "compare " + l + " " + bad, LayerMounts.NONE);
                Run.refused(Scenes.DROPPED, "compare " + bad + " " + l, LayerMounts.NONE);
            }
        }
        Run.refused(Scenes.DROPPED, "compare 4 5", LayerMounts.NONE);
        Run.refused(Scenes.NEW, "compare 1 1", LayerMounts.NONE);
        Run.refused(Scenes.BUSY, "compare 3 3", LayerMounts.NONE);
        Run.of(Scenes.BUSY).then("compare 2 0 = 177; compare 3 0 = NONE; compare 0 3 = NONE");
    }

    // "Answers 0."
    private static void promise19NothingToSquash() {
        Run.unseen(Scenes.EMPTY, "squash 0 = 0");
        Run.unseen(Scenes.EMPTY, "squash 0 = 0; squash 0 = 0");
        Run.of("mount 3 0; squash 3 = 0; mkdir 3 0; squash 3 = 0; commit 3; squash 3 = 0");
    }

    // "mount m's changes are written in the shortest way", which can't be seen
    private static void promise19NothingIsSeen() {
        Run.unseen(Scenes.BUSY, "squash 0 = 0; squash 1 = 0");
        for (int m = 0; m < 4; m++) {
            Run.unseen(Scenes.SIX_LAYERS, "squash " + m + " = 0");
        }
        for (String change : new String[] {
            "rmdir 0 1", "rmdir 0 1; mkdir 0 1", "remove 0 0; write 0 0 10", "remove 0 4; write 0 4 0",
            "rename 0 0 3", "rename 0 7 4; rename 0 4 7", "grow 0 5 MAX", "write 0 6 0; remove 0 6"}) {
            Run.unseen(Scenes.BUSY + "; " + change, "squash 0 = 0; squash 0 = 0");
        }
    }

    private static void promise19WrongMounts() {
        for (int m : Scenes.NO_MOUNTS) {
            Run.refused(Scenes.BUSY, "squash " + m, LayerMounts.BAD_ARG);
        }
        Run.refused(Scenes.BUSY, "squash 2", LayerMounts.UNUSED);
        Run.refused(Scenes.BUSY, "squash 3", LayerMounts.UNUSED);
    }
}
