/** The edges of promises 1 to 3: a test for each sentence. */
public final class MountsEdgesTest {
    private static final String NOTHING = "directories 0 files 0 changes 0 contents 0 0 0 0 0 0 0 0";

    public static void main(String[] args) {
        promise01LayerZeroIsThere();
        promise01NoMountIsInUse();
        promise02TheFirstAndTheLastMount();
        promise02TheLowestAndTheHighestLayer();
        promise02NothingIsLeftOfAnEarlierUse();
        promise02ThereIsNoLayer();
        promise02ThereIsNoLayerAnyMore();
        promise02ARefusedMountIsNotInUse();
        promise03NoLongerInUse();
        promise03TheTreeIsLost();
        promise03TheOthersStay();
        Due.end();
    }

    // "Layer 0 is there"
    private static void promise01LayerZeroIsThere() {
        Run.of("layers = 1; base 0 = NONE; compare 0 0 = 0; compare 0 1 = NONE; compare 1 0 = NONE");
        Run.of("mount 0 1 = NONE; mount 0 0 = 0").sees(0, NOTHING);
        Run.refused(Scenes.NEW, "drop", LayerMounts.NONE);
    }

    // "no mount is in use."
    private static void promise01NoMountIsInUse() {
        for (int m = 0; m < 4; m++) {
            for (String call : Scenes.callsWith(m)) {
                Run.refused(Scenes.NEW, call, LayerMounts.UNUSED);
            }
            Run.refused(Scenes.NEW, "read " + m + " 0", 0);
            Run.of("mount " + m + " 0 = 0").sees(m, NOTHING);
        }
    }

    // "Mount m is in use from now on"
    private static void promise02TheFirstAndTheLastMount() {
        Run.of("mount 0 0 = 0; files 0 = 0; files 3 = UNUSED; mount 0 0 = UNUSED; unmount 0 = 0");
        Run.of("mount 3 0 = 0; files 3 = 0; files 0 = UNUSED; mount 3 0 = UNUSED; unmount 3 = 0");
    }

    // "begun on layer l, with its tree"
    private static void promise02TheLowestAndTheHighestLayer() {
        String scene = Scenes.SIX_LAYERS + "; unmount 0";
        Run.of(scene).then("mount 0 0 = 0").sees(0, NOTHING);
        Run.of(scene).then("mount 0 1 = 0").sees(0, "directories 3 files 255 changes 0 contents 1 2 3 4 5 6 7 8");
        Run.of(scene).then("mount 0 4 = 0").sees(0, "directories 1 files 13 changes 0 contents 2 0 3 4 0 0 0 0");
        Run.of(scene).then("mount 0 5 = 0").sees(0, "directories 3 files 29 changes 0 contents 2 0 3 4 0 0 0 0");
        Run.of("mount 0 0; commit 0; commit 0; mount 1 0; mount 2 1; mount 3 2")
                .then("commit 1 = 3; base 3 = 0; commit 2 = 4; base 4 = 1; commit 3 = 5; base 5 = 2");
    }

    private static void promise02NothingIsLeftOfAnEarlierUse() {
        Run.of(Scenes.BUSY).then("mount 2 0").sees(2, NOTHING)
                .then("mkdir 2 0; files 2 = 0; read 2 2 = 0; grow 2 2 1 = NONE; write 2 2 1 = 0")
                .then("commit 2 = 3; base 3 = 0");
        Run.of(Scenes.BUSY).then("unmount 1; mount 1 2")
                .sees(1, "directories 3 files 177 changes 0 contents 10 0 0 0 14 15 0 -1");
    }

    // "Then NONE if there is no layer l."
    private static void promise02ThereIsNoLayer() {
        for (int l : new int[] {Scenes.MIN, -6, -5, -4, -1, 1, 2, 5, 6, 32, Scenes.MAX}) {
            Run.refused(Scenes.NEW, "mount 0 " + l, LayerMounts.NONE);
        }
        for (int l : new int[] {-1, 3, 4, 5, 6}) {
            Run.refused(Scenes.BUSY, "mount 2 " + l, LayerMounts.NONE);
            Run.refused(Scenes.BUSY, "mount 3 " + l, LayerMounts.NONE);
        }
        Run.refused(Scenes.SIX_LAYERS + "; unmount 1", "mount 1 6", LayerMounts.NONE);
        Run.refused(Scenes.SIX_LAYERS + "; unmount 1", "mount 1 -1", LayerMounts.NONE);
    }

    private static void promise02ThereIsNoLayerAnyMore() {
        Run.refused(Scenes.DROPPED, "mount 0 4", LayerMounts.NONE);
        Run.refused(Scenes.DROPPED, "mount 0 5", LayerMounts.NONE);
        Run.of(Scenes.DROPPED).then("mount 0 3 = 0; drop = NONE");
    }

    private static void promise02ARefusedMountIsNotInUse() {
        Run.of("mount 0 1 = NONE; files 0 = UNUSED; unmount 0 = UNUSED; mount 0 0 = 0; files 0 = 0");
    }

    // "Mount m is no longer in use"
    private static void promise03NoLongerInUse() {
        for (int m = 0; m < 4; m++) {
            String scene = Scenes.SIX_LAYERS + "; unmount " + m + " = 0";
            for (String call : Scenes.callsWith(m)) {
                Run.refused(scene, call, LayerMounts.UNUSED);
            }
            Run.refused(scene, "read " + m + " 0", 0);
            Run.of(scene).then("mount " + m + " 5 = 0");
        }
    }

    // "its tree is lost"
    private static void promise03TheTreeIsLost() {
        Run.of(Scenes.BUSY).then("write 0 1 99; rmdir 0 1; unmount 0 = 0; layers = 3; mount 0 2")
                .sees(0, "directories 3 files 177 changes 0 contents 10 0 0 0 14 15 0 -1");
        Run.of("mount 0 0; mkdir 0 0; write 0 0 5; unmount 0 = 0; layers = 1; mount 0 0").sees(0, NOTHING)
                .then("mkdir 0 0 = 0; read 0 0 = 0; files 0 = 0");
    }

    private static void promise03TheOthersStay() {
        for (int m = 0; m < 4; m++) {
            Run run = Run.of("mount 0 0; mount 1 0; mount 2 0; mount 3 0; unmount " + m + " = 0");
            for (int other = 0; other < 4; other++) {
                run.then("files " + other + (other == m ? " = UNUSED" : " = 0"));
            }
        }
    }
}
