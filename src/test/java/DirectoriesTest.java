/** Promises 4, 5 and 12: mkdir, rmdir, directories. */
public final class DirectoriesTest {
    private static final int[] NO_DIRECTORIES = {-1, 2, 3, 31, 32, 33, -32, Integer.MIN_VALUE, Integer.MAX_VALUE};

    public static void main(String[] args) {
        promise04Mkdir();
        promise04MkdirOfADirectoryThatWasTakenAway();
        promise04WrongInputs();
        promise05Rmdir();
        promise05RmdirOfWhatALayerHas();
        promise05WrongInputs();
        promise12Directories();
        promise12WrongInputs();
        Due.end();
    }

    private static void promise04Mkdir() {
        for (int d = 0; d < 2; d++) {
            LayerMounts x = new LayerMounts();
            x.mount(0, 0);
            x.mount(1, 0);
            Due.due(x.mkdir(0, d), 0);
            Due.due(x.directories(0), 1 << d);
            Due.due(x.files(0), 0);
            Due.due(x.directories(1), 0);
            Due.due(x.mkdir(0, d), LayerMounts.NONE);
            Due.due(x.mkdir(0, 1 - d), 0);
            Due.due(x.directories(0), 3);
            Due.due(x.mkdir(0, 1 - d), LayerMounts.NONE);
        }
    }

    private static void promise04MkdirOfADirectoryThatWasTakenAway() {
        LayerMounts x = full();
        x.commit(0);
        x.rmdir(0, 1);
        Due.due(x.mkdir(0, 1), 0);
        Due.same(View.mount(x, 0), "directories 3 files 15 changes 4 contents 1 2 3 4 0 0 0 0");
        Due.due(x.grow(0, 5, 1), LayerMounts.NONE);
        Due.due(x.write(0, 5, 60), 0);
        Due.due(x.read(0, 5), 60);
    }

    private static void promise04WrongInputs() {
        LayerMounts x = new LayerMounts();
        x.mount(0, 0);
        x.mkdir(0, 0);
        x.write(0, 2, 7);
        String before = View.of(x);
        for (int d : NO_DIRECTORIES) {
            Due.due(x.mkdir(0, d), LayerMounts.BAD_ARG);
        }
        Due.due(x.mkdir(0, 0), LayerMounts.NONE);
        Due.due(x.mkdir(1, 1), LayerMounts.UNUSED);
        Due.due(x.mkdir(1, 2), LayerMounts.UNUSED);
        Due.due(x.mkdir(4, 1), LayerMounts.BAD_ARG);
        Due.due(x.mkdir(-1, 1), LayerMounts.BAD_ARG);
        Due.same(View.of(x), before);
    }

    private static void promise05Rmdir() {
        for (int d = 0; d < 2; d++) {
            for (int set = 0; set < 16; set++) {
                LayerMounts x = full();
                for (int f = 0; f < 4; f++) {
                    if ((set & (1 << f)) == 0) {
                        x.remove(0, 4 * d + f);
                    }
                }
                Due.due(x.rmdir(0, d), Integer.bitCount(set));
                Due.due(x.directories(0), 2 - d);
                Due.due(x.files(0), d == 0 ? 240 : 15);
                for (int f = 0; f < 8; f++) {
                    Due.due(x.read(0, f), f / 4 == d ? 0 : f + 1);
                }
                Due.due(x.write(0, 4 * d, 1), LayerMounts.NONE);
                Due.due(x.rmdir(0, d), LayerMounts.NONE);
            }
        }
    }

    private static void promise05RmdirOfWhatALayerHas() {
        LayerMounts x = full();
        x.commit(0);
        x.mount(1, 1);
        Due.due(x.rmdir(1, 0), 4);
        Due.same(View.mount(x, 1), "directories 2 files 240 changes 4 contents 0 0 0 0 5 6 7 8");
        Due.same(View.mount(x, 0), "directories 3 files 255 changes 0 contents 1 2 3 4 5 6 7 8");
    }

    private static void promise05WrongInputs() {
        LayerMounts x = full();
        x.rmdir(0, 1);
        String before = View.of(x);
        for (int d : NO_DIRECTORIES) {
            Due.due(x.rmdir(0, d), LayerMounts.BAD_ARG);
        }
        Due.due(x.rmdir(0, 1), LayerMounts.NONE);
        Due.due(x.rmdir(1, 0), LayerMounts.UNUSED);
        Due.due(x.rmdir(1, 2), LayerMounts.UNUSED);
        Due.due(x.rmdir(4, 0), LayerMounts.BAD_ARG);
        Due.due(x.rmdir(-1, 0), LayerMounts.BAD_ARG);
        Due.same(View.of(x), before);
    }

    private static void promise12Directories() {
        LayerMounts x = new LayerMounts();
        x.mount(3, 0);
        Due.due(x.directories(3), 0);
        x.mkdir(3, 1);
        Due.due(x.directories(3), 2);
        x.commit(3);
        x.mkdir(3, 0);
        Due.due(x.directories(3), 3);
        x.rmdir(3, 1);
        Due.due(x.directories(3), 1);
        x.mount(0, 1);
        Due.due(x.directories(0), 2);
    }

    private static void promise12WrongInputs() {
        LayerMounts x = full();
        for (int m : new int[] {-1, 4, Integer.MIN_VALUE, Integer.MAX_VALUE}) {
            Due.due(x.directories(m), LayerMounts.BAD_ARG);
        }
        Due.due(x.directories(1), LayerMounts.UNUSED);
        x.unmount(0);
        Due.due(x.directories(0), LayerMounts.UNUSED);
    }

    /** Mount 0 on layer 0, with both directories and file f with content f + 1. */
    private static LayerMounts full() {
        LayerMounts x = new LayerMounts();
        x.mount(0, 0);
        x.mkdir(0, 0);
        x.mkdir(0, 1);
        for (int f = 0; f < 8; f++) {
            x.write(0, f, f + 1);
        }
        return x;
    }
}
