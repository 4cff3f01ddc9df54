/** The edges that the document names outside its promises: a test for each sentence. */
public final class TermsEdgesTest {
    private static final String NOTHING = "directories 0 files 0 changes 0 contents 0 0 0 0 0 0 0 0";

    public static void main(String[] args) {
        the512thCallOfARunOfGrows();
        the512thCallOfARunOfCommitsAndDrops();
        fileNumbersAreFourPerDirectory();
        contentsAreAnyInt();
        filesOfADirectoryThatIsNotThereAreNotThere();
        filesOfADirectoryThatIsNotThereAreNotThereInALayer();
        layersAreNumberedFromZeroToFive();
        aLayerHasTheTreeOfTheTimeWhenItWasMade();
        layerZeroHasNothingThere();
        mountsAreZeroToThree();
        aMountInUseHasATreeOfItsOwn();
        changingAMountChangesNothingElse();
        theBaseIsWhatTheMountWasBegunOn();
        layerZeroHasNoBase();
        aLayerWithAMountIsNotFree();
        aLayerWhoseMountWentAwayIsFree();
        aLayerThatIsABaseIsNotFree();
        squashCannotBeSeen();
        noSuchMount();
        mountNotInUse();
        mountInUseForMount();
        fullIsSixLayers();
        unusedIsTheMount();
        noneIsNotThereOrThereAlreadyOrCannotBeDone();
        Due.end();
    }

    // "An object is used for at most 512 calls after it has been made"
    private static void the512thCallOfARunOfGrows() {
        Run run = Run.of("mount 3 0; mkdir 3 1; write 3 7 0");
        for (int n = 0; n < 508; n++) {
            run.then("grow 3 7 -1 = 0");
        }
        run.then("read 3 7 = -508");
    }

    private static void the512thCallOfARunOfCommitsAndDrops() {
        Run run = Run.of("mount 0 0");
        for (int n = 0; n < 127; n++) {
            run.then("commit 0 = 1; unmount 0 = 0; drop = 1; mount 0 0 = 0");
        }
        run.then("directories 0 = 0; commit 0 = 1; layers = 2");
    }

    // "There are two directories 0 and 1 with 4 files 0 to 3 each; file f of directory d has the
    // number 4 d + f (0 to 7)."
    private static void fileNumbersAreFourPerDirectory() {
        for (int d = 0; d < 2; d++) {
            for (int f = 0; f < 4; f++) {
                int number = 4 * d + f;
                Run.of("mount 0 0; mkdir 0 " + d).then("write 0 " + number + " 9 = 0")
                        .then("files 0 = " + (1 << number)).then("rmdir 0 " + d + " = 1");
                Run.refused("mount 0 0; mkdir 0 " + (1 - d), "write 0 " + number + " 9", LayerMounts.NONE);
            }
        }
    }

    // "A TREE says .. for each file of a directory that is there whether it is there, and its
    // CONTENT (an int)."
    private static void contentsAreAnyInt() {
        for (int content : new int[] {Scenes.MIN, -4, -3, -2, -1, 0, 1, 65536, Scenes.MAX}) {
            Run.of("mount 0 0; mkdir 0 1; write 0 4 " + content + " = 0; files 0 = 16; commit 0; mount 1 1")
                    .then("read 0 4 = " + content).then("read 1 4 = " + content);
        }
    }

    // "A file of a directory that is not there is not there."
    private static void filesOfADirectoryThatIsNotThereAreNotThere() {
        String gone = "mount 0 0; mkdir 0 0; mkdir 0 1; write 0 3 33; write 0 4 44; write 0 7 77; rmdir 0 1";
        Run.of(gone).then("files 0 = 8; read 0 3 = 33; read 0 4 = 0; read 0 7 = 0; changes 0 = 1");
        Run.refused(gone, "grow 0 4 1", LayerMounts.NONE);
        Run.refused(gone, "remove 0 7", LayerMounts.NONE);
        Run.refused(gone, "rename 0 4 0", LayerMounts.NONE);
        Run.of(gone).then("mkdir 0 1 = 0; files 0 = 8; read 0 4 = 0; grow 0 4 1 = NONE; write 0 7 1 = 0");
    }

    private static void filesOfADirectoryThatIsNotThereAreNotThereInALayer() {
        Run.of("mount 0 0; mkdir 0 0; write 0 0 1; write 0 3 4; commit 0; rmdir 0 0 = 2; commit 0 = 2")
                .then("compare 1 2 = 9; compare 0 2 = 0; mount 1 2").sees(1, NOTHING)
                .then("mkdir 1 0; files 1 = 0; read 1 3 = 0; changes 1 = 0; commit 1 = 3; compare 2 3 = 0");
    }

    // "LAYERS are numbered 0, 1, .., at most 6." and "There are 6 layers."
    private static void layersAreNumberedFromZeroToFive() {
        Run run = Run.of("mount 0 0; layers = 1");
        for (int l = 1; l < 6; l++) {
            run.then("commit 0 = " + l).then("layers = " + (l + 1));
        }
        run.then("commit 0 = FULL; layers = 6; base 5 = 4; base 6 = NONE; base 7 = NONE");
        run.then("mount 1 5 = 0; mount 2 6 = NONE; mount 2 7 = NONE");
        run.then("compare 0 5 = 0; compare 0 6 = NONE; compare 6 0 = NONE; compare 6 6 = NONE");
    }

    // "A layer has a TREE: that of a mount at the time when the layer was made."
    private static void aLayerHasTheTreeOfTheTimeWhenItWasMade() {
        String made = "mount 0 0; mkdir 0 0; write 0 0 1; write 0 3 4; write 0 3 5; remove 0 0; commit 0";
        String tree = "directories 1 files 8 changes 0 contents 0 0 0 5 0 0 0 0";
        for (String later : new String[] {
            "files 0 = 8", "mkdir 0 1", "rmdir 0 0 = 1", "write 0 3 6 = 1", "write 0 2 6 = 0",
            "grow 0 3 1", "remove 0 3", "rename 0 3 1", "unmount 0", "commit 0 = 2", "squash 0"}) {
            Run.of(made).then(later).then("mount 1 1").sees(1, tree);
        }
    }

    // "Layer 0 has the tree with nothing there."
    private static void layerZeroHasNothingThere() {
        for (String scene : Scenes.ALL) {
            Run run = Run.of(scene);
            run.answer("unmount", 1);
            run.then("mount 1 0 = 0").sees(1, NOTHING).then("compare 0 0 = 0");
        }
        Run.of(Scenes.SIX_LAYERS).then("compare 0 1 = 255; compare 0 4 = 13; compare 0 5 = 29");
        Run.of(Scenes.SIX_LAYERS).then("unmount 0; unmount 1; unmount 2; unmount 3")
                .then("drop = 5; drop = 4; drop = 3; drop = 2; drop = 1; drop = NONE; mount 2 0")
                .sees(2, NOTHING);
    }

    // "MOUNTS are 0 to 3; a mount is IN USE or not"
    private static void mountsAreZeroToThree() {
        Run.of("mount 0 0 = 0; mount 1 0 = 0; mount 2 0 = 0; mount 3 0 = 0; mount 4 0 = BAD_ARG");
        Run.of("mount 3 0 = 0; files 0 = UNUSED; files 1 = UNUSED; files 2 = UNUSED; files 3 = 0");
        Run.refused(Scenes.NEW, "mount -1 0", LayerMounts.BAD_ARG);
        Run.refused(Scenes.NEW, "mount 4 0", LayerMounts.BAD_ARG);
    }

    // "one in use has a tree of its own"
    private static void aMountInUseHasATreeOfItsOwn() {
        Run run = Run.of("mount 0 0; mount 1 0; mount 2 0; mount 3 0");
        for (int m = 0; m < 4; m++) {
            run.then("mkdir " + m + " 0 = 0; write " + m + " " + m + " " + (5 + m) + " = 0");
        }
        run.sees(0, "directories 1 files 1 changes 1 contents 5 0 0 0 0 0 0 0");
        run.sees(1, "directories 1 files 2 changes 1 contents 0 6 0 0 0 0 0 0");
        run.sees(2, "directories 1 files 4 changes 1 contents 0 0 7 0 0 0 0 0");
        run.sees(3, "directories 1 files 8 changes 1 contents 0 0 0 8 0 0 0 0");
    }

    // "Changing a mount's tree changes no layer and no other mount."
    private static void changingAMountChangesNothingElse() {
        String scene = "mount 0 0; mkdir 0 0; write 0 0 1; write 0 1 2; write 0 3 4; commit 0;"
                + "mount 1 1; mount 2 1; mount 3 1";
        String tree = "directories 1 files 11 changes 0 contents 1 2 0 4 0 0 0 0";
        for (int m = 0; m < 4; m++) {
            for (String change : new String[] {
                "mkdir " + m + " 1", "rmdir " + m + " 0", "write " + m + " 0 9", "write " + m + " 2 9",
                "grow " + m + " 1 9", "remove " + m + " 3", "rename " + m + " 3 0", "rename " + m + " 0 2"}) {
                Run run = Run.of(scene).then(change);
                for (int other = 0; other < 4; other++) {
                    if (other != m) {
                        run.sees(other, tree);
                    }
                }
                run.then("unmount " + m).then("mount " + m + " 1").sees(m, tree);
                run.then("unmount " + m).then("mount " + m + " 0").sees(m, NOTHING);
                run.then("layers = 2; base 1 = 0; compare 0 1 = 11");
            }
        }
    }

    // "A layer also has a BASE, the layer that its mount was begun on"
    private static void theBaseIsWhatTheMountWasBegunOn() {
        Run.of("mount 0 0; mount 1 0; commit 0 = 1; commit 0 = 2; mount 2 1; commit 2 = 3; commit 1 = 4")
                .then("base 1 = 0; base 2 = 1; base 3 = 1; base 4 = 0")
                .then("unmount 0; unmount 1; unmount 2; base 1 = 0; base 2 = 1; base 3 = 1; base 4 = 0")
                .then("mount 1 3; commit 1 = 5; base 5 = 3");
    }

    // "(layer 0 has none)"
    private static void layerZeroHasNoBase() {
        for (String scene : Scenes.ALL) {
            Run.of(scene).then("base 0 = NONE");
        }
    }

    // "it is FREE if no mount in use was begun on it"
    private static void aLayerWithAMountIsNotFree() {
        for (int m = 0; m < 4; m++) {
            Run.refused("mount " + m + " 0; commit " + m, "drop", LayerMounts.NONE);
            Run.refused("mount 3 0; commit 3; unmount 3; mount " + m + " 1", "drop", LayerMounts.NONE);
        }
        Run.refused("mount 0 0; commit 0; mount 1 1; unmount 0", "drop", LayerMounts.NONE);
    }

    private static void aLayerWhoseMountWentAwayIsFree() {
        // Of mounts that are not in use, and of those that have committed since, nothing is left.
        Run.of("mount 0 0; commit 0 = 1; unmount 0; drop = 1");
        Run.of("mount 0 0; commit 0 = 1; unmount 0; mount 0 0; drop = 1");
        Run.of("mount 0 0; commit 0; mount 1 1; commit 1 = 2; unmount 1; drop = 2; drop = NONE; unmount 0; drop = 1");
        Run.of("mount 0 0; commit 0; commit 0 = 2; unmount 0; drop = 2; drop = 1");
    }

    // "and no layer has it as its base"
    private static void aLayerThatIsABaseIsNotFree() {
        // Only the highest layer is ever taken, and never one under it that is its base.
        Run.of("mount 0 0; commit 0; commit 0 = 2; unmount 0; drop = 2; base 1 = 0; layers = 2; drop = 1; layers = 1");
        Run.of("mount 0 0; commit 0; commit 0; unmount 0; mount 0 2; drop = NONE; layers = 3")
                .then("base 2 = 1; mount 1 1 = 0");
        // A base that its layer has left is free again, also where the layer's number is reused.
        Run.of("mount 0 0; mount 1 0; commit 0 = 1; commit 0 = 2; unmount 0; drop = 2; commit 1 = 2; base 2 = 0")
                .then("unmount 1; drop = 2; drop = 1; drop = NONE");
    }

    // "What the call squash does can't be seen by any other call."
    private static void squashCannotBeSeen() {
        for (String scene : Scenes.ALL) {
            Run squashed = Run.of("");
            for (String call : scene.split(";")) {
                squashed.then(call);
                for (int m = 0; m < 4; m++) {
                    squashed.answer("squash", m);
                }
            }
            Due.same(squashed.rest(), Run.of(scene).rest());
        }
    }

    // "In all calls with a mount m: m not 0 to 3 answers BAD_ARG .. before anything else."
    private static void noSuchMount() {
        for (String scene : Scenes.ALL) {
            for (int m : Scenes.NO_MOUNTS) {
                for (String call : Scenes.callsWith(m)) {
                    Run.refused(scene, call, LayerMounts.BAD_ARG);
                }
                for (int l : new int[] {-1, 0, 1, 6}) {
                    Run.refused(scene, "mount " + m + " " + l, LayerMounts.BAD_ARG);
                }
            }
        }
    }

    // "then m not in use .. answers UNUSED, before anything else."
    private static void mountNotInUse() {
        String[] scenes = {Scenes.BUSY, Scenes.SIX_LAYERS + "; unmount 2; unmount 3"};
        for (String scene : scenes) {
            for (int m = 2; m < 4; m++) {
                for (String call : Scenes.callsWith(m)) {
                    Run.refused(scene, call, LayerMounts.UNUSED);
                }
            }
        }
    }

    // "(for mount: in use)"
    private static void mountInUseForMount() {
        for (int m = 0; m < 4; m++) {
            for (int l : new int[] {Scenes.MIN, -1, 0, 3, 5, 6, Scenes.MAX}) {
                Run.refused(Scenes.SIX_LAYERS, "mount " + m + " " + l, LayerMounts.UNUSED);
            }
        }
        Run.refused(Scenes.EMPTY, "mount 0 0", LayerMounts.UNUSED);
        Run.refused(Scenes.EMPTY, "mount 0 1", LayerMounts.UNUSED);
    }

    // "`FULL = -2`: There are 6 layers."
    private static void fullIsSixLayers() {
        Due.due(LayerMounts.FULL, -2);
        Run.of("mount 0 0; commit 0 = 1; commit 0 = 2; commit 0 = 3; commit 0 = 4; layers = 5; commit 0 = 5")
                .then("layers = 6; commit 0 = -2; unmount 0; drop = 5; layers = 5; mount 1 0")
                .then("commit 1 = 5; commit 1 = -2");
    }

    // "`UNUSED = -3`: The mount is not in use (for mount: it is)."
    private static void unusedIsTheMount() {
        Due.due(LayerMounts.UNUSED, -3);
        Run.of("unmount 0 = -3; mount 0 0 = 0; mount 0 0 = -3; unmount 0 = 0; unmount 0 = -3; mount 0 0 = 0");
    }

    // "`NONE = -4`: It is not there, or there already, or it can't be done."
    private static void noneIsNotThereOrThereAlreadyOrCannotBeDone() {
        Due.due(LayerMounts.NONE, -4);
        Due.due(LayerMounts.BAD_ARG, -1);
        Run.of("mount 0 0; rmdir 0 0 = -4; mkdir 0 0 = 0; mkdir 0 0 = -4; drop = -4; remove 0 0 = -4; mkdir 0 2 = -1");
    }
}
