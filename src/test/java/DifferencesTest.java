/** Promises 17 to 19: changes, compare, squash. */
public final class DifferencesTest {
    private static final int MIN = Integer.MIN_VALUE;
    private static final int MAX = Integer.MAX_VALUE;

    public static void main(String[] args) {
        promise17Changes();
        promise17ChangesCountsEachFile();
        promise17ChangesThatWereTakenBack();
        promise17WrongInputs();
        promise18Compare();
        promise18CompareIsOfFilesOnly();
        promise18NoLayer();
        promise19SquashCannotBeSeen();
        promise19WrongInputs();
        Due.end();
    }

    private static void promise17Changes() {
        LayerMounts x = onLayerOne();
        Due.due(x.changes(0), 0);
        x.write(0, 2, 0);
        Due.due(x.changes(0), 1);
        x.remove(0, 0);
        Due.due(x.changes(0), 2);
        x.grow(0, 1, 5);
        Due.due(x.changes(0), 3);
        x.grow(0, 1, 5);
        Due.due(x.changes(0), 3);
        x.rename(0, 4, 6);
        Due.due(x.changes(0), 5);
        x.rmdir(0, 0);
        Due.due(x.changes(0), 4);
        Due.due(x.changes(1), 0);
        x.commit(0);
        Due.due(x.changes(0), 0);
        Due.due(x.changes(1), 0);
    }

    private static void promise17ChangesCountsEachFile() {
        for (int f = 0; f < 8; f++) {
            LayerMounts x = new LayerMounts();
            x.mount(0, 0);
            x.mkdir(0, 0);
            x.mkdir(0, 1);
            for (int g = 0; g <= f; g++) {
                x.write(0, g, 0);
                Due.due(x.changes(0), g + 1);
            }
            x.commit(0);
            for (int g = 0; g <= f; g++) {
                x.grow(0, g, 1);
                Due.due(x.changes(0), g + 1);
            }
        }
    }

    private static void promise17ChangesThatWereTakenBack() {
        LayerMounts x = onLayerOne();
        x.write(0, 0, 99);
        x.write(0, 0, 10);
        Due.due(x.changes(0), 0);
        x.remove(0, 1);
        x.write(0, 1, 0);
        Due.due(x.changes(0), 0);
        x.rename(0, 4, 5);
        x.rename(0, 5, 4);
        Due.due(x.changes(0), 0);
        x.grow(0, 0, MIN);
        x.grow(0, 0, MIN);
        Due.due(x.changes(0), 0);
        x.write(0, 3, 5);
        x.remove(0, 3);
        Due.due(x.changes(0), 0);
        x.rmdir(0, 1);
        x.mkdir(0, 1);
        Due.due(x.changes(0), 1);
        x.write(0, 4, 14);
        Due.due(x.changes(0), 0);
        // A directory without a file is no difference of files.
        x.remove(0, 4);
        x.commit(0);
        x.rmdir(0, 1);
        Due.due(x.changes(0), 0);
    }

    private static void promise17WrongInputs() {
        LayerMounts x = onLayerOne();
        for (int m : new int[] {-1, 4, 5, MIN, MAX}) {
            Due.due(x.changes(m), LayerMounts.BAD_ARG);
        }
        Due.due(x.changes(2), LayerMounts.UNUSED);
        x.unmount(0);
        Due.due(x.changes(0), LayerMounts.UNUSED);
    }

    private static void promise18Compare() {
        LayerMounts x = onLayerOne();
        x.write(0, 0, 11);
        x.remove(0, 1);
        x.write(0, 7, 0);
        Due.due(x.commit(0), 2);
        x.mount(2, 0);
        x.mkdir(2, 1);
        x.write(2, 4, 14);
        x.write(2, 7, -1);
        Due.due(x.commit(2), 3);
        int[][] sets = {
            {0, 19, 145, 144},
            {19, 0, 131, 131},
            {145, 131, 0, 129},
            {144, 131, 129, 0}};
        for (int l = 0; l < 4; l++) {
            for (int k = 0; k < 4; k++) {
                Due.due(x.compare(l, k), sets[l][k]);
            }
        }
        // Layers are compared, not the mounts that were begun on them.
        x.rmdir(0, 1);
        x.write(0, 2, 2);
        Due.due(x.compare(1, 2), 131);
    }

    private static void promise18CompareIsOfFilesOnly() {
        LayerMounts x = new LayerMounts();
        x.mount(0, 0);
        x.mkdir(0, 0);
        x.mkdir(0, 1);
        x.write(0, 5, 5);
        x.remove(0, 5);
        x.commit(0);
        Due.due(x.compare(0, 1), 0);
        x.write(0, 5, 0);
        x.commit(0);
        Due.due(x.compare(0, 2), 32);
        Due.due(x.compare(2, 1), 32);
    }

    private static void promise18NoLayer() {
        LayerMounts x = onLayerOne();
        for (int l : new int[] {-1, 2, 3, 5, 6, 7, MIN, MAX}) {
            Due.due(x.compare(l, 0), LayerMounts.NONE);
            Due.due(x.compare(1, l), LayerMounts.NONE);
            Due.due(x.compare(l, l), LayerMounts.NONE);
        }
    }

    private static void promise19SquashCannotBeSeen() {
        LayerMounts x = onLayerOne();
        Due.due(x.squash(0), 0);
        x.rmdir(0, 0);
        x.mkdir(0, 0);
        x.write(0, 1, 0);
        x.rename(0, 4, 2);
        x.write(0, 6, 3);
        x.remove(0, 6);
        String before = View.of(x);
        Due.due(x.squash(0), 0);
        Due.due(x.squash(0), 0);
        Due.same(View.of(x), before);
        Due.due(x.commit(0), 2);
        x.rmdir(0, 0);
        Due.due(x.squash(0), 0);
        x.mkdir(0, 0);
        Due.due(x.squash(0), 0);
        Due.same(View.mount(x, 0), "directories 3 files 0 changes 2 contents 0 0 0 0 0 0 0 0");
        Due.due(x.layers(), 3);
        Due.due(x.base(2), 1);
        Due.due(x.compare(1, 2), 21);
    }

    private static void promise19WrongInputs() {
        LayerMounts x = onLayerOne();
        String before = View.of(x);
        for (int m : new int[] {-1, 4, 9, MIN, MAX}) {
            Due.due(x.squash(m), LayerMounts.BAD_ARG);
        }
        Due.due(x.squash(2), LayerMounts.UNUSED);
        Due.same(View.of(x), before);
    }

    /** Layer 1 with files 0, 1 and 4, file 1 with content 0; mounts 0 and 1 are on it. */
    private static LayerMounts onLayerOne() {
        LayerMounts x = new LayerMounts();
        x.mount(0, 0);
        x.mkdir(0, 0);
        x.mkdir(0, 1);
        x.write(0, 0, 10);
        x.write(0, 1, 0);
        x.write(0, 4, 14);
        x.commit(0);
        x.mount(1, 1);
        return x;
    }
}
