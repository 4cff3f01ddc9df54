/** Promises 6 to 11 and 20: write, grow, remove, rename, read, files, and read's refusals. */
public final class FilesTest {
    private static final int MIN = Integer.MIN_VALUE;
    private static final int MAX = Integer.MAX_VALUE;
    private static final int[] NO_FILES = {-1, 8, 9, 31, 32, -32, MIN, MAX};
    private static final int[] NO_MOUNTS = {-1, 4, 5, MIN, MAX};

    public static void main(String[] args) {
        promise06Write();
        promise06WriteNeedsTheDirectory();
        promise06WrongInputs();
        promise07Grow();
        promise07GrowWraps();
        promise07WrongInputs();
        promise08Remove();
        promise08WrongInputs();
        promise09Rename();
        promise09RenameOntoAFileThatIsThere();
        promise09RenameNeedsFileAndDirectory();
        promise09WrongInputs();
        promise10Read();
        promise11Files();
        promise11WrongInputs();
        promise20ReadAnswersNoCode();
        Due.end();
    }

    private static void promise06Write() {
        for (int f = 0; f < 8; f++) {
            LayerMounts x = bothDirectories();
            Due.due(x.write(0, f, 0), 0);
            Due.due(x.files(0), 1 << f);
            Due.due(x.read(0, f), 0);
            Due.due(x.write(0, f, MIN), 1);
            Due.due(x.read(0, f), MIN);
            Due.due(x.write(0, f, MAX), 1);
            Due.due(x.read(0, f), MAX);
            Due.due(x.write(0, f, -1), 1);
            Due.due(x.read(0, f), -1);
            Due.due(x.files(0), 1 << f);
            x.remove(0, f);
            Due.due(x.write(0, f, 3), 0);
            x.commit(0);
            Due.due(x.write(0, f, 4), 1);
            for (int g = 0; g < 8; g++) {
                Due.due(x.read(0, g), g == f ? 4 : 0);
            }
        }
    }

    private static void promise06WriteNeedsTheDirectory() {
        for (int d = 0; d < 2; d++) {
            LayerMounts x = new LayerMounts();
            x.mount(0, 0);
            x.mkdir(0, d);
            for (int f = 0; f < 8; f++) {
                Due.due(x.write(0, f, 5), f / 4 == d ? 0 : LayerMounts.NONE);
            }
            Due.due(x.files(0), d == 0 ? 15 : 240);
            x.rmdir(0, d);
            for (int f = 0; f < 8; f++) {
                Due.due(x.write(0, f, 5), LayerMounts.NONE);
            }
            Due.due(x.files(0), 0);
        }
    }

    private static void promise06WrongInputs() {
        LayerMounts x = someFiles();
        String before = View.of(x);
        for (int f : NO_FILES) {
            Due.due(x.write(0, f, 5), LayerMounts.BAD_ARG);
        }
        Due.due(x.write(2, 0, 5), LayerMounts.UNUSED);
        Due.due(x.write(2, 8, 5), LayerMounts.UNUSED);
        Due.due(x.write(1, 4, 5), LayerMounts.NONE);
        Due.due(x.write(1, 8, 5), LayerMounts.BAD_ARG);
        for (int m : NO_MOUNTS) {
            Due.due(x.write(m, 0, 5), LayerMounts.BAD_ARG);
        }
        Due.same(View.of(x), before);
    }

    private static void promise07Grow() {
        LayerMounts x = someFiles();
        Due.due(x.grow(0, 1, 10), 0);
        Due.due(x.read(0, 1), 30);
        Due.due(x.grow(0, 1, -40), 0);
        Due.due(x.read(0, 1), -10);
        Due.due(x.grow(0, 1, 0), 0);
        Due.due(x.read(0, 1), -10);
        Due.due(x.grow(0, 1, 10), 0);
        Due.due(x.read(0, 1), 0);
        Due.due(x.grow(0, 7, 1), 0);
        Due.due(x.read(0, 7), 81);
        Due.due(x.read(0, 4), 50);
        Due.due(x.read(1, 1), 20);
        Due.due(x.files(0), 146);
    }

    private static void promise07GrowWraps() {
        LayerMounts x = bothDirectories();
        x.write(0, 6, MAX);
        Due.due(x.grow(0, 6, 1), 0);
        Due.due(x.read(0, 6), MIN);
        Due.due(x.grow(0, 6, -1), 0);
        Due.due(x.read(0, 6), MAX);
        Due.due(x.grow(0, 6, MAX), 0);
        Due.due(x.read(0, 6), -2);
        Due.due(x.grow(0, 6, MIN), 0);
        Due.due(x.read(0, 6), MAX - 1);
    }

    private static void promise07WrongInputs() {
        LayerMounts x = someFiles();
        String before = View.of(x);
        for (int f : NO_FILES) {
            Due.due(x.grow(0, f, 1), LayerMounts.BAD_ARG);
        }
        Due.due(x.grow(0, 0, 1), LayerMounts.NONE);
        Due.due(x.grow(1, 4, 1), LayerMounts.NONE);
        Due.due(x.grow(2, 1, 1), LayerMounts.UNUSED);
        Due.due(x.grow(2, 8, 1), LayerMounts.UNUSED);
        for (int m : NO_MOUNTS) {
            Due.due(x.grow(m, 1, 1), LayerMounts.BAD_ARG);
        }
        Due.same(View.of(x), before);
        Due.due(x.write(0, 0, 1), 0);
        Due.due(x.read(0, 0), 1);
    }

    private static void promise08Remove() {
        for (int f = 0; f < 8; f++) {
            LayerMounts x = bothDirectories();
            for (int g = 0; g < 8; g++) {
                x.write(0, g, g + 1);
            }
            x.commit(0);
            Due.due(x.remove(0, f), 0);
            Due.due(x.files(0), 255 - (1 << f));
            Due.due(x.directories(0), 3);
            for (int g = 0; g < 8; g++) {
                Due.due(x.read(0, g), g == f ? 0 : g + 1);
            }
            Due.due(x.remove(0, f), LayerMounts.NONE);
            Due.due(x.grow(0, f, 1), LayerMounts.NONE);
            x.mount(1, 1);
            Due.due(x.read(1, f), f + 1);
        }
    }

    private static void promise08WrongInputs() {
        LayerMounts x = someFiles();
        String before = View.of(x);
        for (int f : NO_FILES) {
            Due.due(x.remove(0, f), LayerMounts.BAD_ARG);
        }
        Due.due(x.remove(0, 0), LayerMounts.NONE);
        Due.due(x.remove(1, 4), LayerMounts.NONE);
        Due.due(x.remove(2, 1), LayerMounts.UNUSED);
        Due.due(x.remove(2, 8), LayerMounts.UNUSED);
        for (int m : NO_MOUNTS) {
            Due.due(x.remove(m, 1), LayerMounts.BAD_ARG);
        }
        Due.same(View.of(x), before);
    }

    private static void promise09Rename() {
        for (int f = 0; f < 8; f++) {
            for (int g = 0; g < 8; g++) {
                if (f == g) {
                    continue;
                }
                LayerMounts x = bothDirectories();
                x.write(0, f, 70);
                Due.due(x.rename(0, f, g), 0);
                Due.due(x.files(0), 1 << g);
                Due.due(x.read(0, f), 0);
                Due.due(x.read(0, g), 70);
                Due.due(x.rename(0, f, g), LayerMounts.NONE);
            }
        }
    }

    private static void promise09RenameOntoAFileThatIsThere() {
        LayerMounts x = someFiles();
        Due.due(x.rename(0, 1, 4), 1);
        Due.same(View.mount(x, 0), "directories 3 files 144 changes 2 contents 0 0 0 0 20 0 0 80");
        Due.due(x.rename(0, 7, 0), 0);
        Due.due(x.rename(0, 0, 4), 1);
        Due.same(View.mount(x, 0), "directories 3 files 16 changes 3 contents 0 0 0 0 80 0 0 0");
        x.write(0, 5, 80);
        Due.due(x.rename(0, 5, 4), 1);
        Due.same(View.mount(x, 0), "directories 3 files 16 changes 3 contents 0 0 0 0 80 0 0 0");
        Due.same(View.mount(x, 1), "directories 1 files 2 changes 2 contents 0 20 0 0 0 0 0 0");
    }

    private static void promise09RenameNeedsFileAndDirectory() {
        LayerMounts x = someFiles();
        String before = View.of(x);
        Due.due(x.rename(0, 0, 1), LayerMounts.NONE);
        Due.due(x.rename(0, 0, 2), LayerMounts.NONE);
        Due.due(x.rename(1, 1, 4), LayerMounts.NONE);
        Due.due(x.rename(1, 4, 1), LayerMounts.NONE);
        Due.due(x.rename(1, 4, 5), LayerMounts.NONE);
        Due.same(View.of(x), before);
    }

    private static void promise09WrongInputs() {
        LayerMounts x = someFiles();
        String before = View.of(x);
        for (int f : NO_FILES) {
            Due.due(x.rename(0, f, 0), LayerMounts.BAD_ARG);
            Due.due(x.rename(0, 1, f), LayerMounts.BAD_ARG);
            Due.due(x.rename(0, 0, f), LayerMounts.BAD_ARG);
            Due.due(x.rename(0, f, f), LayerMounts.BAD_ARG);
        }
        // The same file twice is refused whether it is there or not.
        Due.due(x.rename(0, 1, 1), LayerMounts.BAD_ARG);
        Due.due(x.rename(0, 0, 0), LayerMounts.BAD_ARG);
        Due.due(x.rename(1, 4, 4), LayerMounts.BAD_ARG);
        Due.due(x.rename(2, 1, 2), LayerMounts.UNUSED);
        Due.due(x.rename(2, 1, 1), LayerMounts.UNUSED);
        Due.due(x.rename(2, 8, 1), LayerMounts.UNUSED);
        for (int m : NO_MOUNTS) {
            Due.due(x.rename(m, 1, 2), LayerMounts.BAD_ARG);
        }
        Due.same(View.of(x), before);
    }

    private static void promise10Read() {
        LayerMounts x = someFiles();
        Due.due(x.read(0, 1), 20);
        Due.due(x.read(0, 4), 50);
        Due.due(x.read(0, 7), 80);
        Due.due(x.read(0, 0), 0);
        Due.due(x.read(1, 4), 0);
        x.write(0, 3, LayerMounts.NONE);
        Due.due(x.read(0, 3), -4);
        x.remove(0, 4);
        Due.due(x.read(0, 4), 0);
        x.rmdir(0, 1);
        Due.due(x.read(0, 7), 0);
        x.mkdir(0, 1);
        Due.due(x.read(0, 7), 0);
    }

    private static void promise11Files() {
        for (int set = 0; set < 256; set++) {
            LayerMounts x = bothDirectories();
            for (int f = 0; f < 8; f++) {
                if ((set & (1 << f)) != 0) {
                    x.write(0, f, 0);
                }
            }
            Due.due(x.files(0), set);
            x.commit(0);
            x.mount(3, 1);
            Due.due(x.files(3), set);
        }
    }

    private static void promise11WrongInputs() {
        LayerMounts x = someFiles();
        for (int m : NO_MOUNTS) {
            Due.due(x.files(m), LayerMounts.BAD_ARG);
        }
        Due.due(x.files(2), LayerMounts.UNUSED);
        x.unmount(0);
        Due.due(x.files(0), LayerMounts.UNUSED);
    }

    private static void promise20ReadAnswersNoCode() {
        LayerMounts x = someFiles();
        String before = View.of(x);
        for (int m : NO_MOUNTS) {
            Due.due(x.read(m, 1), 0);
            Due.due(x.read(m, 8), 0);
        }
        for (int f : NO_FILES) {
            Due.due(x.read(0, f), 0);
            Due.due(x.read(2, f), 0);
        }
        Due.due(x.read(2, 1), 0);
        Due.same(View.of(x), before);
        x.unmount(0);
        Due.due(x.read(0, 1), 0);
    }

    private static LayerMounts bothDirectories() {
        LayerMounts x = new LayerMounts();
        x.mount(0, 0);
        x.mkdir(0, 0);
        x.mkdir(0, 1);
        return x;
    }

    /** Layer 1 with files 1, 4 and 7; mount 0 has it as it is, mount 1 without directory 1. */
    private static LayerMounts someFiles() {
        LayerMounts x = bothDirectories();
        x.write(0, 1, 20);
        x.write(0, 4, 50);
        x.write(0, 7, 80);
        x.commit(0);
        x.mount(1, 1);
        x.rmdir(1, 1);
        return x;
    }
}
