/** Promises 13 to 16: commit, drop, layers, base. */
public final class LayersTest {
    private static final int MIN = Integer.MIN_VALUE;
    private static final int MAX = Integer.MAX_VALUE;

    public static void main(String[] args) {
        promise13Commit();
        promise13TheMountCountsAsBegunOnTheNewLayer();
        promise13LayersKeepTheirTrees();
        promise13Full();
        promise13WrongInputs();
        promise14Drop();
        promise14DropOfALayerThatIsNotFree();
        promise14ANumberIsGivenAgain();
        promise15Layers();
        promise16Base();
        promise16NoBase();
        Due.end();
    }

    private static void promise13Commit() {
        LayerMounts x = new LayerMounts();
        x.mount(2, 0);
        x.mkdir(2, 1);
        x.write(2, 6, 60);
        Due.due(x.commit(2), 1);
        Due.same(View.mount(x, 2), "directories 2 files 64 changes 0 contents 0 0 0 0 0 0 60 0");
        x.mount(0, 1);
        Due.same(View.mount(x, 0), "directories 2 files 64 changes 0 contents 0 0 0 0 0 0 60 0");
        // A mount without a change makes a layer as well.
        Due.due(x.commit(2), 2);
        Due.due(x.compare(1, 2), 0);
        Due.due(x.layers(), 3);
    }

    private static void promise13TheMountCountsAsBegunOnTheNewLayer() {
        LayerMounts x = new LayerMounts();
        x.mount(0, 0);
        x.mount(1, 0);
        x.mkdir(0, 0);
        x.write(0, 0, 1);
        Due.due(x.changes(0), 1);
        Due.due(x.commit(0), 1);
        Due.due(x.changes(0), 0);
        Due.due(x.drop(), LayerMounts.NONE);
        x.write(0, 0, 2);
        Due.due(x.changes(0), 1);
        Due.due(x.commit(0), 2);
        Due.due(x.base(2), 1);
        // Another mount goes on counting as begun on its own layer.
        Due.due(x.commit(1), 3);
        Due.due(x.base(3), 0);
        Due.due(x.files(1), 0);
    }

    private static void promise13LayersKeepTheirTrees() {
        LayerMounts x = new LayerMounts();
        x.mount(0, 0);
        for (int l = 1; l < 6; l++) {
            x.mkdir(0, l % 2);
            x.write(0, 4 * (l % 2), 10 * l);
            x.write(0, 4 * (l % 2) + l / 2, l);
            Due.due(x.commit(0), l);
        }
        x.rmdir(0, 0);
        x.rmdir(0, 1);
        String[] trees = {
            "directories 0 files 0 changes 0 contents 0 0 0 0 0 0 0 0",
            "directories 2 files 16 changes 0 contents 0 0 0 0 1 0 0 0",
            "directories 3 files 19 changes 0 contents 20 2 0 0 1 0 0 0",
            "directories 3 files 51 changes 0 contents 20 2 0 0 30 3 0 0",
            "directories 3 files 55 changes 0 contents 40 2 4 0 30 3 0 0",
            "directories 3 files 119 changes 0 contents 40 2 4 0 50 3 5 0"};
        for (int l = 0; l < 6; l++) {
            Due.due(x.mount(1, l), 0);
            Due.same(View.mount(x, 1), trees[l]);
            x.unmount(1);
        }
    }

    private static void promise13Full() {
        LayerMounts x = fiveCommits();
        x.write(0, 3, 33);
        String before = View.of(x);
        Due.due(x.commit(0), LayerMounts.FULL);
        Due.due(x.commit(0), LayerMounts.FULL);
        Due.due(x.commit(1), LayerMounts.FULL);
        Due.due(x.commit(2), LayerMounts.UNUSED);
        Due.due(x.commit(4), LayerMounts.BAD_ARG);
        Due.due(x.layers(), 6);
        Due.same(View.of(x), before);
    }

    private static void promise13WrongInputs() {
        LayerMounts x = new LayerMounts();
        x.mount(0, 0);
        x.mkdir(0, 0);
        String before = View.of(x);
        for (int m : new int[] {-1, 4, 5, MIN, MAX}) {
            Due.due(x.commit(m), LayerMounts.BAD_ARG);
        }
        Due.due(x.commit(1), LayerMounts.UNUSED);
        Due.same(View.of(x), before);
    }

    private static void promise14Drop() {
        LayerMounts x = fiveCommits();
        x.unmount(0);
        // Mount 1 is begun on layer 0 and holds none of the others.
        for (int l = 5; l > 0; l--) {
            Due.due(x.drop(), l);
            Due.due(x.layers(), l);
            Due.due(x.base(l), LayerMounts.NONE);
            Due.due(x.mount(2, l), LayerMounts.NONE);
            Due.due(x.compare(l, 0), LayerMounts.NONE);
        }
        Due.due(x.drop(), LayerMounts.NONE);
        x.unmount(1);
        Due.due(x.drop(), LayerMounts.NONE);
        Due.due(x.layers(), 1);
        Due.due(x.mount(2, 0), 0);
    }

    private static void promise14DropOfALayerThatIsNotFree() {
        for (int m = 0; m < 4; m++) {
            LayerMounts x = fiveCommits();
            x.unmount(0);
            x.unmount(1);
            x.mount(m, 5);
            String before = View.of(x);
            Due.due(x.drop(), LayerMounts.NONE);
            Due.same(View.of(x), before);
            x.unmount(m);
            // A lower layer in use holds itself, not the one over it.
            x.mount(m, 4);
            Due.due(x.drop(), 5);
            Due.due(x.drop(), LayerMounts.NONE);
            x.unmount(m);
            Due.due(x.drop(), 4);
        }
    }

    private static void promise14ANumberIsGivenAgain() {
        LayerMounts x = new LayerMounts();
        x.mount(0, 0);
        x.mkdir(0, 0);
        x.mkdir(0, 1);
        x.write(0, 0, 1);
        x.commit(0);
        x.write(0, 5, 5);
        x.commit(0);
        x.unmount(0);
        Due.due(x.drop(), 2);
        x.mount(0, 0);
        x.mkdir(0, 1);
        x.write(0, 5, 6);
        Due.due(x.commit(0), 2);
        Due.due(x.base(2), 0);
        Due.due(x.compare(1, 2), 33);
        x.mount(1, 2);
        Due.same(View.mount(x, 1), "directories 2 files 32 changes 0 contents 0 0 0 0 0 6 0 0");
    }

    private static void promise15Layers() {
        LayerMounts x = new LayerMounts();
        Due.due(x.layers(), 1);
        x.mount(0, 0);
        Due.due(x.layers(), 1);
        for (int l = 1; l < 6; l++) {
            x.commit(0);
            Due.due(x.layers(), l + 1);
        }
        x.commit(0);
        Due.due(x.layers(), 6);
        x.drop();
        Due.due(x.layers(), 6);
        x.unmount(0);
        Due.due(x.layers(), 6);
        x.drop();
        Due.due(x.layers(), 5);
    }

    private static void promise16Base() {
        LayerMounts x = new LayerMounts();
        x.mount(0, 0);
        x.mount(1, 0);
        x.commit(0);
        x.commit(0);
        x.commit(1);
        x.mount(2, 1);
        x.commit(2);
        x.commit(1);
        int[] bases = {LayerMounts.NONE, 0, 1, 0, 1, 3};
        for (int l = 0; l < 6; l++) {
            Due.due(x.base(l), bases[l]);
        }
        // A base stays what it was when its mount goes.
        x.unmount(0);
        x.unmount(1);
        x.unmount(2);
        for (int l = 0; l < 6; l++) {
            Due.due(x.base(l), bases[l]);
        }
    }

    private static void promise16NoBase() {
        LayerMounts x = new LayerMounts();
        for (int l : new int[] {-1, 0, 1, 5, 6, 7, MIN, MAX}) {
            Due.due(x.base(l), LayerMounts.NONE);
        }
        LayerMounts y = fiveCommits();
        for (int l : new int[] {-1, 0, 6, 7, MIN, MAX}) {
            Due.due(y.base(l), LayerMounts.NONE);
        }
    }

    /** Six layers, mount 0 on the highest and mount 1 on layer 0. */
    private static LayerMounts fiveCommits() {
        LayerMounts x = new LayerMounts();
        x.mount(0, 0);
        x.mount(1, 0);
        x.mkdir(0, 0);
        for (int l = 1; l < 6; l++) {
            x.write(0, 0, l);
            Due.due(x.commit(0), l);
        }
        return x;
    }
}
