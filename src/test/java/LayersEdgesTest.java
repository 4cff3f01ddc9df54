/** The edges of promises 13 to 16: a test for each sentence. */
public final class LayersEdgesTest {
    private static final String FOUR_UNMOUNTS = "; unmount 0; unmount 1; unmount 2; unmount 3";

    public static void main(String[] args) {
        promise13TheTreeOfTheMount();
        promise13CountsAsBegunOnTheNewLayer();
        promise13Full();
        promise13FullChangesNothingThatShowsLater();
        promise13AfterFull();
        promise13ItsNumber();
        promise13WrongMounts();
        promise14TheHighestNumber();
        promise14NotFree();
        promise14NotLayerZero();
        promise14WhatIsTakenAwayIsGone();
        promise15TheNumberOfLayers();
        promise16TheBase();
        promise16NoLayerOrLayerZero();
        Due.end();
    }

    // "Makes a new layer with the tree of mount m"
    private static void promise13TheTreeOfTheMount() {
        // An empty tree, and a tree that has not changed, make a layer as well.
        Run.of("mount 0 0; commit 0 = 1; compare 0 1 = 0; mount 1 1")
                .sees(1, "directories 0 files 0 changes 0 contents 0 0 0 0 0 0 0 0");
        Run.of("mount 0 0; mkdir 0 1; commit 0 = 1; compare 0 1 = 0; mount 1 1")
                .sees(1, "directories 2 files 0 changes 0 contents 0 0 0 0 0 0 0 0");
        Run.of(Scenes.BUSY).then("commit 0 = 3; commit 0 = 4; compare 3 4 = 0; mount 3 4")
                .sees(3, "directories 3 files 177 changes 0 contents 10 0 0 0 15 15 0 -1");
        Run.of(Scenes.BUSY).then("commit 1 = 3; compare 1 3 = 145; mount 3 3")
                .sees(3, "directories 1 files 3 changes 0 contents 11 0 0 0 0 0 0 0");
    }

    // "its base is the layer that m was begun on; from then on m counts as begun on the new layer"
    private static void promise13CountsAsBegunOnTheNewLayer() {
        Run.of("mount 3 0; mkdir 3 0; write 3 0 1; changes 3 = 1; commit 3 = 1; changes 3 = 0; base 1 = 0")
                .then("drop = NONE; write 3 0 2; changes 3 = 1; commit 3 = 2; base 2 = 1; changes 3 = 0");
        // Mounts that were begun on the same layer go on counting as begun on it.
        Run.of("mount 0 0; commit 0; mount 1 1; mount 2 1; commit 1 = 2; commit 2 = 3; base 2 = 1")
                .then("base 3 = 1; commit 0 = 4; base 4 = 1")
                .then("commit 1 = 5; base 5 = 2");
    }

    // "FULL."
    private static void promise13Full() {
        for (int m = 0; m < 4; m++) {
            Run.refused(Scenes.SIX_LAYERS, "commit " + m, LayerMounts.FULL);
            Run.refused("mount 0 0; commit 0; commit 0; commit 0; commit 0; commit 0; mount 1 5; mount 2 1; mount 3 0",
                    "commit " + m, LayerMounts.FULL);
        }
        // The mount is looked at first.
        Run.refused(Scenes.SIX_LAYERS + "; unmount 1", "commit 1", LayerMounts.UNUSED);
        Run.refused(Scenes.SIX_LAYERS, "commit 4", LayerMounts.BAD_ARG);
        Run.refused(Scenes.SIX_LAYERS, "commit -1", LayerMounts.BAD_ARG);
    }

    private static void promise13FullChangesNothingThatShowsLater() {
        // Mount 1 still counts as begun on layer 0, and mount 2 on layer 3.
        Run.of(Scenes.SIX_LAYERS).then("commit 1 = FULL; commit 2 = FULL; changes 2 = 1; unmount 0")
                .then("unmount 3; drop = 5; drop = 4")
                .then("commit 1 = 4; base 4 = 0; commit 2 = 5; base 5 = 3; commit 1 = FULL");
    }

    private static void promise13AfterFull() {
        Run.of(Scenes.SIX_LAYERS).then("unmount 0; drop = NONE; commit 1 = FULL; unmount 3")
                .then("commit 1 = FULL; drop = 5; commit 1 = 5")
                .then("layers = 6; base 5 = 0; compare 0 5 = 0; commit 2 = FULL");
    }

    // "Otherwise its number."
    private static void promise13ItsNumber() {
        for (int m = 0; m < 4; m++) {
            Run run = Run.of("mount " + m + " 0");
            for (int l = 1; l < 6; l++) {
                run.then("commit " + m + " = " + l + "; layers = " + (l + 1) + "; base " + l + " = " + (l - 1));
            }
            run.then("commit " + m + " = FULL; layers = 6");
        }
    }

    private static void promise13WrongMounts() {
        for (int m : Scenes.NO_MOUNTS) {
            Run.refused(Scenes.BUSY, "commit " + m, LayerMounts.BAD_ARG);
        }
        Run.refused(Scenes.BUSY, "commit 2", LayerMounts.UNUSED);
        Run.refused(Scenes.BUSY, "commit 3", LayerMounts.UNUSED);
    }

    // "Takes the layer with the highest number away, if it is free" and "Otherwise its number."
    private static void promise14TheHighestNumber() {
        Run run = Run.of(Scenes.SIX_LAYERS + FOUR_UNMOUNTS);
        for (int l = 5; l > 0; l--) {
            run.then("drop = " + l + "; layers = " + l);
        }
        run.then("drop = NONE; layers = 1");
        // A lower layer that is free is not taken instead of the highest.
        Run.refused("mount 0 0; mount 1 0; commit 0 = 1; commit 1 = 2; unmount 0", "drop", LayerMounts.NONE);
        Run.of("mount 0 0; mount 1 0; commit 0 = 1; commit 1 = 2; unmount 1; drop = 2; drop = NONE; layers = 2");
    }

    // "NONE if it is not." (free)
    private static void promise14NotFree() {
        Run.refused(Scenes.BUSY, "drop", LayerMounts.NONE);
        Run.refused(Scenes.SIX_LAYERS, "drop", LayerMounts.NONE);
        Run.refused(Scenes.SIX_LAYERS + "; unmount 0", "drop", LayerMounts.NONE);
        Run.refused(Scenes.SIX_LAYERS + "; unmount 3", "drop", LayerMounts.NONE);
        Run.refused(Scenes.DROPPED, "drop", LayerMounts.NONE);
        for (int m = 0; m < 4; m++) {
            String scene = Scenes.SIX_LAYERS + FOUR_UNMOUNTS;
            Run.refused(scene + "; mount " + m + " 5", "drop", LayerMounts.NONE);
            Run.of(scene).then("mount " + m + " 5; drop = NONE; unmount " + m + "; drop = 5");
            Run.of(scene).then("mount " + m + " 4; drop = 5; drop = NONE; unmount " + m + "; drop = 4");
        }
    }

    // "if it is .. not layer 0"
    private static void promise14NotLayerZero() {
        Run.refused(Scenes.NEW, "drop", LayerMounts.NONE);
        Run.refused(Scenes.EMPTY, "drop", LayerMounts.NONE);
        Run.refused("mount 0 0; unmount 0", "drop", LayerMounts.NONE);
        Run.refused("mount 0 0; commit 0; unmount 0; drop = 1", "drop", LayerMounts.NONE);
    }

    private static void promise14WhatIsTakenAwayIsGone() {
        Run.refused(Scenes.DROPPED, "base 4", LayerMounts.NONE);
        Run.refused(Scenes.DROPPED, "compare 4 0", LayerMounts.NONE);
        Run.refused(Scenes.DROPPED, "compare 0 4", LayerMounts.NONE);
        Run.refused(Scenes.DROPPED, "mount 0 4", LayerMounts.NONE);
        // A number that is given again has nothing of the layer that had it before.
        Run.of(Scenes.DROPPED).then("commit 1 = 4; base 4 = 0; compare 0 4 = 0; mount 0 4")
                .sees(0, "directories 0 files 0 changes 0 contents 0 0 0 0 0 0 0 0");
        Run.of(Scenes.DROPPED).then("mkdir 1 0; commit 1 = 4; mount 0 4; files 0 = 0; read 0 0 = 0; write 0 0 0 = 0");
        Run.of(Scenes.DROPPED).then("mkdir 1 0; write 1 0 70; write 1 1 71; commit 1 = 4; compare 3 4 = 255; mount 0 4")
                .sees(0, "directories 1 files 3 changes 0 contents 70 71 0 0 0 0 0 0");
    }

    // "The number of layers."
    private static void promise15TheNumberOfLayers() {
        int[] layers = {1, 1, 3, 6, 4};
        for (int n = 0; n < layers.length; n++) {
            Run.unseen(Scenes.ALL[n], "layers = " + layers[n]);
        }
        // What is refused neither makes nor takes one.
        Run.of("drop = NONE; layers = 1; commit 0 = UNUSED; layers = 1; mount 0 1 = NONE; layers = 1");
        Run.of(Scenes.SIX_LAYERS).then("commit 0 = FULL; layers = 6; drop = NONE; layers = 6");
    }

    // "The base of layer l"
    private static void promise16TheBase() {
        Run.of(Scenes.SIX_LAYERS).then("base 1 = 0; base 2 = 1; base 3 = 2; base 4 = 3; base 5 = 4");
        Run.of("mount 0 0; mount 1 0; mount 2 0; mount 3 0; commit 0; commit 1; commit 2; commit 3")
                .then("mount 0 0 = UNUSED; commit 3")
                .then("base 1 = 0; base 2 = 0; base 3 = 0; base 4 = 0; base 5 = 4");
        Run.unseen(Scenes.SIX_LAYERS, "base 5 = 4");
    }

    // "NONE if there is no layer l or it is layer 0."
    private static void promise16NoLayerOrLayerZero() {
        for (int l : new int[] {Scenes.MIN, -6, -4, -1, 0, 6, 7, 32, Scenes.MAX}) {
            for (String scene : Scenes.ALL) {
                Run.refused(scene, "base " + l, LayerMounts.NONE);
            }
        }
        Run.refused(Scenes.NEW, "base 1", LayerMounts.NONE);
        Run.refused(Scenes.BUSY, "base 3", LayerMounts.NONE);
        Run.refused(Scenes.DROPPED, "base 4", LayerMounts.NONE);
        Run.refused(Scenes.DROPPED, "base 5", LayerMounts.NONE);
    }
}
