/** Promises 1 to 3: a new object, mount, unmount. */
public final class MountsTest {
    private static final int[] NO_MOUNTS = {-1, 4, 5, Integer.MIN_VALUE, Integer.MAX_VALUE};

    public static void main(String[] args) {
        promise01NewObject();
        promise01ObjectsShareNothing();
        promise02Mount();
        promise02MountBeginsWithTheTreeOfItsLayer();
        promise02MountsChangeNoLayerAndNoOtherMount();
        promise02WrongInputs();
        promise02NoLayer();
        promise03Unmount();
        promise03TheTreeIsLost();
        promise03WrongInputs();
        Due.end();
    }

    private static void promise01NewObject() {
        LayerMounts x = new LayerMounts();
        Due.due(x.layers(), 1);
        Due.due(x.base(0), LayerMounts.NONE);
        Due.due(x.compare(0, 0), 0);
        Due.due(x.compare(0, 1), LayerMounts.NONE);
        Due.due(x.drop(), LayerMounts.NONE);
        for (int m = 0; m < 4; m++) {
            Due.due(x.files(m), LayerMounts.UNUSED);
            Due.due(x.directories(m), LayerMounts.UNUSED);
            Due.due(x.changes(m), LayerMounts.UNUSED);
            Due.due(x.unmount(m), LayerMounts.UNUSED);
        }
        for (int m = 0; m < 4; m++) {
            Due.due(x.mount(m, 0), 0);
            Due.same(View.mount(x, m), "directories 0 files 0 changes 0 contents 0 0 0 0 0 0 0 0");
        }
    }

    private static void promise01ObjectsShareNothing() {
        LayerMounts x = new LayerMounts();
        LayerMounts y = new LayerMounts();
        x.mount(0, 0);
        x.mkdir(0, 0);
        x.write(0, 0, 5);
        x.commit(0);
        Due.due(y.layers(), 1);
        Due.due(y.mount(0, 0), 0);
        Due.same(View.mount(y, 0), "directories 0 files 0 changes 0 contents 0 0 0 0 0 0 0 0");
    }

    private static void promise02Mount() {
        LayerMounts x = new LayerMounts();
        for (int m = 0; m < 4; m++) {
            Due.due(x.mount(m, 0), 0);
            Due.due(x.files(m), 0);
            for (int n = m + 1; n < 4; n++) {
                Due.due(x.files(n), LayerMounts.UNUSED);
            }
        }
    }

    private static void promise02MountBeginsWithTheTreeOfItsLayer() {
        LayerMounts x = twoLayers();
        Due.due(x.mount(1, 0), 0);
        Due.due(x.mount(2, 1), 0);
        Due.due(x.mount(3, 2), 0);
        Due.same(View.mount(x, 1), "directories 0 files 0 changes 0 contents 0 0 0 0 0 0 0 0");
        Due.same(View.mount(x, 2), "directories 1 files 9 changes 0 contents 10 0 0 13 0 0 0 0");
        Due.same(View.mount(x, 3), "directories 3 files 152 changes 0 contents 0 0 0 -13 14 0 0 17");
        // What a mount was begun on shows in what it commits.
        Due.due(x.commit(2), 3);
        Due.due(x.base(3), 1);
        Due.due(x.commit(1), 4);
        Due.due(x.base(4), 0);
    }

    private static void promise02MountsChangeNoLayerAndNoOtherMount() {
        LayerMounts x = twoLayers();
        x.mount(1, 2);
        x.mount(2, 2);
        x.rmdir(1, 0);
        x.grow(1, 4, 1);
        x.write(1, 5, 1);
        Due.same(View.mount(x, 0), "directories 3 files 152 changes 0 contents 0 0 0 -13 14 0 0 17");
        Due.same(View.mount(x, 1), "directories 2 files 176 changes 3 contents 0 0 0 0 15 1 0 17");
        Due.same(View.mount(x, 2), "directories 3 files 152 changes 0 contents 0 0 0 -13 14 0 0 17");
        x.mount(3, 2);
        Due.same(View.mount(x, 3), "directories 3 files 152 changes 0 contents 0 0 0 -13 14 0 0 17");
    }

    private static void promise02WrongInputs() {
        LayerMounts x = twoLayers();
        String before = View.of(x);
        for (int m : NO_MOUNTS) {
            Due.due(x.mount(m, 0), LayerMounts.BAD_ARG);
            Due.due(x.mount(m, 9), LayerMounts.BAD_ARG);
        }
        Due.due(x.mount(0, 0), LayerMounts.UNUSED);
        Due.due(x.mount(0, 2), LayerMounts.UNUSED);
        Due.due(x.mount(0, -1), LayerMounts.UNUSED);
        Due.due(x.mount(0, 9), LayerMounts.UNUSED);
        for (int l : new int[] {-1, 3, 4, 5, 6, 7, Integer.MIN_VALUE, Integer.MAX_VALUE}) {
            Due.due(x.mount(1, l), LayerMounts.NONE);
            Due.due(x.files(1), LayerMounts.UNUSED);
        }
        Due.same(View.of(x), before);
    }

    private static void promise02NoLayer() {
        LayerMounts x = twoLayers();
        x.unmount(0);
        Due.due(x.drop(), 2);
        Due.due(x.mount(0, 2), LayerMounts.NONE);
        Due.due(x.mount(0, 1), 0);
        Due.due(x.files(0), 9);
    }

    private static void promise03Unmount() {
        LayerMounts x = new LayerMounts();
        for (int m = 0; m < 4; m++) {
            x.mount(m, 0);
        }
        for (int m = 0; m < 4; m++) {
            Due.due(x.unmount(m), 0);
            Due.due(x.files(m), LayerMounts.UNUSED);
            Due.due(x.unmount(m), LayerMounts.UNUSED);
            for (int n = m + 1; n < 4; n++) {
                Due.due(x.files(n), 0);
            }
        }
    }

    private static void promise03TheTreeIsLost() {
        LayerMounts x = twoLayers();
        x.write(0, 1, 99);
        x.rmdir(0, 1);
        Due.due(x.unmount(0), 0);
        Due.due(x.read(0, 1), 0);
        Due.due(x.mount(0, 2), 0);
        Due.same(View.mount(x, 0), "directories 3 files 152 changes 0 contents 0 0 0 -13 14 0 0 17");
        Due.due(x.layers(), 3);
    }

    private static void promise03WrongInputs() {
        LayerMounts x = twoLayers();
        String before = View.of(x);
        for (int m : NO_MOUNTS) {
            Due.due(x.unmount(m), LayerMounts.BAD_ARG);
        }
        Due.due(x.unmount(1), LayerMounts.UNUSED);
        Due.same(View.of(x), before);
    }

    /** Layers 1 and 2 over layer 0, and mount 0 on layer 2 without a change. */
    private static LayerMounts twoLayers() {
        LayerMounts x = new LayerMounts();
        x.mount(0, 0);
        x.mkdir(0, 0);
        x.write(0, 0, 10);
        x.write(0, 3, 13);
        x.commit(0);
        x.mkdir(0, 1);
        x.write(0, 4, 14);
        x.write(0, 7, 17);
        x.remove(0, 0);
        x.write(0, 3, -13);
        x.commit(0);
        return x;
    }
}
