/** The edges of promises 6 to 11 and 20: a test for each sentence. */
public final class FilesEdgesTest {
    private static final String BOTH = "mount 0 0; mkdir 0 0; mkdir 0 1";

    public static void main(String[] args) {
        promise06TheFileIsThereWithThisContent();
        promise06NotZeroToSeven();
        promise06ItsDirectoryIsNotThere();
        promise06WhetherItWasThereBefore();
        promise07Wrapping();
        promise07GrowingByNothing();
        promise07NotZeroToSeven();
        promise07ItIsNotThere();
        promise08NoLongerThere();
        promise08NotZeroToSeven();
        promise08ItIsNotThere();
        promise09TheContentMoves();
        promise09NotZeroToSeven();
        promise09TheSame();
        promise09TheFileIsNotThere();
        promise09TheDirectoryIsNotThere();
        promise09WhetherItWasThereBefore();
        promise10ItIsNotThere();
        promise10NothingIsMade();
        promise11TheEmptyAndTheFullSet();
        promise11WrongMounts();
        promise20EveryRefusedMount();
        promise20EveryRefusedFile();
        Due.end();
    }

    // "File number f is there with this content."
    private static void promise06TheFileIsThereWithThisContent() {
        Run.of(BOTH).then("write 0 0 MIN = 0; read 0 0 = MIN; files 0 = 1");
        Run.of(BOTH).then("write 0 7 MAX = 0; read 0 7 = MAX; files 0 = 128");
        Run.of(BOTH).then("write 0 3 0 = 0; read 0 3 = 0; files 0 = 8; grow 0 3 2 = 0; read 0 3 = 2");
        Run.of(BOTH).then("write 0 4 7; write 0 4 0 = 1; read 0 4 = 0; files 0 = 16");
    }

    // "Then f not 0 to 7 answers BAD_ARG"
    private static void promise06NotZeroToSeven() {
        for (int f : Scenes.NO_FILES) {
            Run.refused(Scenes.EMPTY, "write 0 " + f + " 5", LayerMounts.BAD_ARG);
            Run.refused(BOTH, "write 0 " + f + " 5", LayerMounts.BAD_ARG);
            Run.refused(Scenes.BUSY, "write 1 " + f + " 5", LayerMounts.BAD_ARG);
        }
    }

    // "its directory is not there answers NONE"
    private static void promise06ItsDirectoryIsNotThere() {
        for (int f = 0; f < 8; f++) {
            Run.refused(Scenes.EMPTY, "write 0 " + f + " 5", LayerMounts.NONE);
            Run.refused("mount 0 0; mkdir 0 " + (1 - f / 4), "write 0 " + f + " 5", LayerMounts.NONE);
            Run.refused(BOTH + "; write 0 " + f + " 1; commit 0; rmdir 0 " + f / 4, "write 0 " + f + " 5",
                    LayerMounts.NONE);
        }
    }

    // "Otherwise 1 if the file was there before, else 0."
    private static void promise06WhetherItWasThereBefore() {
        for (int f = 0; f < 8; f++) {
            Run.of(BOTH).then("write 0 " + f + " 0 = 0; write 0 " + f + " 0 = 1; remove 0 " + f)
                    .then("write 0 " + f + " 0 = 0; commit 0; write 0 " + f + " 0 = 1; remove 0 " + f)
                    .then("write 0 " + f + " 0 = 0; mount 1 1; write 1 " + f + " 3 = 1; mount 2 0; mkdir 2 " + f / 4)
                    .then("write 2 " + f + " 0 = 0");
        }
        Run.of(BOTH).then("write 0 6 1; rmdir 0 1; mkdir 0 1; write 0 6 1 = 0; rename 0 6 5")
                .then("write 0 6 1 = 0; write 0 5 1 = 1");
    }

    // "The content of file f grows by x (wrapping)."
    private static void promise07Wrapping() {
        Run.of(BOTH).then("write 0 0 MAX; grow 0 0 1 = 0; read 0 0 = MIN; grow 0 0 -1 = 0; read 0 0 = MAX");
        Run.of(BOTH).then("write 0 7 MIN; grow 0 7 -1 = 0; read 0 7 = MAX; grow 0 7 MAX = 0; read 0 7 = -2");
        Run.of(BOTH).then("write 0 3 MIN; grow 0 3 MIN = 0; read 0 3 = 0; files 0 = 8")
                .then("grow 0 3 MIN = 0; read 0 3 = MIN");
        Run.of(BOTH).then("write 0 4 MAX; grow 0 4 MIN = 0; read 0 4 = -1; grow 0 4 1 = 0; read 0 4 = 0; files 0 = 16");
        // Contents that look like codes are contents.
        Run.of(BOTH).then("write 0 4 0; grow 0 4 -4 = 0; read 0 4 = -4; grow 0 4 1 = 0; read 0 4 = -3");
    }

    private static void promise07GrowingByNothing() {
        Run.unseen(Scenes.BUSY, "grow 0 7 0 = 0");
        Run.of(BOTH).then("write 0 5 6; grow 0 5 0 = 0; read 0 5 = 6; commit 0; grow 0 5 0 = 0; changes 0 = 0");
    }

    // "Then f not 0 to 7 answers BAD_ARG"
    private static void promise07NotZeroToSeven() {
        for (int f : Scenes.NO_FILES) {
            Run.refused(Scenes.EMPTY, "grow 0 " + f + " 5", LayerMounts.BAD_ARG);
            Run.refused(Scenes.BUSY, "grow 0 " + f + " 5", LayerMounts.BAD_ARG);
            Run.refused(Scenes.SIX_LAYERS, "grow 2 " + f + " 5", LayerMounts.BAD_ARG);
        }
    }

    // "it is not there answers NONE"
    private static void promise07ItIsNotThere() {
        for (int f = 0; f < 8; f++) {
            Run.refused(Scenes.EMPTY, "grow 0 " + f + " 5", LayerMounts.NONE);
            Run.refused(BOTH, "grow 0 " + f + " 5", LayerMounts.NONE);
            Run.refused(withFile(f) + "; remove 0 " + f, "grow 0 " + f + " 0", LayerMounts.NONE);
            Run.refused(withFile(f) + "; rmdir 0 " + f / 4, "grow 0 " + f + " 5", LayerMounts.NONE);
            Run.of(withFile(f)).then("remove 0 " + f + "; grow 0 " + f + " 5 = NONE; read 0 " + f + " = 0");
        }
    }

    // "File f is no longer there."
    private static void promise08NoLongerThere() {
        for (int f = 0; f < 8; f++) {
            Run.of(withFile(f)).then("remove 0 " + f + " = 0; read 0 " + f + " = 0; files 0 = 0; directories 0 = 3")
                    .then("changes 0 = 1; commit 0 = 2; compare 1 2 = " + (1 << f))
                    .then("mount 1 2; files 1 = 0; mount 2 1; files 2 = " + (1 << f));
        }
    }

    // "Then f not 0 to 7 answers BAD_ARG"
    private static void promise08NotZeroToSeven() {
        for (int f : Scenes.NO_FILES) {
            Run.refused(Scenes.EMPTY, "remove 0 " + f, LayerMounts.BAD_ARG);
            Run.refused(Scenes.BUSY, "remove 0 " + f, LayerMounts.BAD_ARG);
            Run.refused(Scenes.SIX_LAYERS, "remove 2 " + f, LayerMounts.BAD_ARG);
        }
    }

    // "it is not there answers NONE"
    private static void promise08ItIsNotThere() {
        for (int f = 0; f < 8; f++) {
            Run.refused(Scenes.EMPTY, "remove 0 " + f, LayerMounts.NONE);
            Run.refused(BOTH, "remove 0 " + f, LayerMounts.NONE);
            Run.refused(withFile(f) + "; remove 0 " + f, "remove 0 " + f, LayerMounts.NONE);
            Run.refused(withFile(f) + "; rmdir 0 " + f / 4, "remove 0 " + f, LayerMounts.NONE);
        }
    }

    // "File g gets the content of file f, and f is no longer there."
    private static void promise09TheContentMoves() {
        for (int f = 0; f < 8; f++) {
            for (int g = 0; g < 8; g++) {
                if (f != g) {
                    for (int content : new int[] {Scenes.MIN, -4, 0, Scenes.MAX}) {
                        Run.of(BOTH).then("write 0 " + f + " " + content + "; rename 0 " + f + " " + g + " = 0")
                                .then("files 0 = " + (1 << g) + "; read 0 " + g + " = " + content)
                                .then("read 0 " + f + " = 0; grow 0 " + f + " 1 = NONE");
                    }
                }
            }
        }
    }

    // "Then f or g not 0 to 7 .. answers BAD_ARG"
    private static void promise09NotZeroToSeven() {
        for (int bad : Scenes.NO_FILES) {
            Run.refused(Scenes.BUSY, "rename 0 " + bad + " 0", LayerMounts.BAD_ARG);
            Run.refused(Scenes.BUSY, "rename 0 0 " + bad, LayerMounts.BAD_ARG);
            Run.refused(Scenes.BUSY, "rename 0 " + bad + " " + bad, LayerMounts.BAD_ARG);
            // Before what would answer NONE: f is not there, or the directory of g is not.
            Run.refused(Scenes.BUSY, "rename 0 1 " + bad, LayerMounts.BAD_ARG);
            Run.refused(Scenes.BUSY, "rename 1 " + bad + " 4", LayerMounts.BAD_ARG);
            Run.refused(Scenes.EMPTY, "rename 0 " + bad + " 0", LayerMounts.BAD_ARG);
            Run.refused(Scenes.EMPTY, "rename 0 7 " + bad, LayerMounts.BAD_ARG);
        }
    }

    // "or the same, answers BAD_ARG"
    private static void promise09TheSame() {
        for (int f = 0; f < 8; f++) {
            Run.refused(withFile(f), "rename 0 " + f + " " + f, LayerMounts.BAD_ARG);
            Run.refused(BOTH, "rename 0 " + f + " " + f, LayerMounts.BAD_ARG);
            Run.refused(Scenes.EMPTY, "rename 0 " + f + " " + f, LayerMounts.BAD_ARG);
        }
    }

    // "f is not there .. answers NONE"
    private static void promise09TheFileIsNotThere() {
        for (int f = 0; f < 8; f++) {
            for (int g = 0; g < 8; g++) {
                if (f != g) {
                    Run.refused(Scenes.EMPTY, "rename 0 " + f + " " + g, LayerMounts.NONE);
                    Run.refused(BOTH, "rename 0 " + f + " " + g, LayerMounts.NONE);
                    // The file that it would have replaced stays.
                    Run.refused(withFile(g), "rename 0 " + f + " " + g, LayerMounts.NONE);
                    Run.refused(withFile(f) + "; remove 0 " + f, "rename 0 " + f + " " + g, LayerMounts.NONE);
                }
            }
        }
    }

    // "or the directory of g is not, answers NONE"
    private static void promise09TheDirectoryIsNotThere() {
        for (int f = 0; f < 8; f++) {
            int other = 1 - f / 4;
            for (int g = 4 * other; g < 4 * other + 4; g++) {
                Run.refused(withFile(f) + "; rmdir 0 " + other, "rename 0 " + f + " " + g, LayerMounts.NONE);
                Run.refused(withFile(f) + "; write 0 " + g + " 1; rmdir 0 " + other, "rename 0 " + f + " " + g,
                        LayerMounts.NONE);
            }
        }
    }

    // "Otherwise 1 if g was there before, else 0."
    private static void promise09WhetherItWasThereBefore() {
        for (int f = 0; f < 8; f++) {
            for (int g = 0; g < 8; g++) {
                if (f != g) {
                    String there = "rename 0 " + f + " " + g;
                    String back = "rename 0 " + g + " " + f;
                    Run.of(withFile(f)).then("write 0 " + g + " 0; " + there + " = 1")
                            .then(back + " = 0; " + there + " = 0")
                            .then("write 0 " + f + " 3; " + back + " = 1; files 0 = " + (1 << f))
                            .then("read 0 " + f + " = " + (f + 1)).then("read 0 " + g + " = 0");
                    // The same content in both is no matter.
                    Run.of(withFile(f)).then("write 0 " + g + " " + (f + 1) + "; " + there + " = 1")
                            .then("files 0 = " + (1 << g));
                }
            }
        }
        Run.of(BOTH).then("write 0 0 1; write 0 7 2; rmdir 0 1; mkdir 0 1; rename 0 0 7 = 0; read 0 7 = 1");
    }

    // "0 if it is not there"
    private static void promise10ItIsNotThere() {
        for (int f = 0; f < 8; f++) {
            String read = "read 0 " + f + " = 0";
            Run.of(Scenes.EMPTY).then(read);
            Run.of(BOTH).then(read);
            Run.of(withFile(f)).then("read 0 " + f + " = " + (f + 1)).then("remove 0 " + f).then(read);
            Run.of(withFile(f)).then("rmdir 0 " + f / 4).then(read).then("mkdir 0 " + f / 4).then(read);
            Run.of(withFile(f)).then("rename 0 " + f + " " + (f + 3) % 8).then(read);
            Run.of(withFile(f)).then("unmount 0").then(read).then("mount 0 0").then(read);
        }
    }

    private static void promise10NothingIsMade() {
        Run.unseen(Scenes.BUSY, "read 0 1 = 0");
        Run.unseen(Scenes.BUSY, "read 1 4 = 0");
        Run.unseen(Scenes.BUSY, "read 0 7 = -1");
        Run.of(BOTH).then("read 0 2 = 0; files 0 = 0; write 0 2 0 = 0");
    }

    // "The set of the files that are there in mount m"
    private static void promise11TheEmptyAndTheFullSet() {
        Run.of(Scenes.EMPTY).then("files 0 = 0");
        Run.of(BOTH).then("files 0 = 0");
        Run run = Run.of(BOTH);
        for (int f = 7; f >= 0; f--) {
            run.then("write 0 " + f + " 0; files 0 = " + (256 - (1 << f)));
        }
        run.then("files 0 = 255; commit 0; mount 3 1; files 3 = 255; rmdir 3 0; files 3 = 240; rmdir 3 1; files 3 = 0");
        for (int f = 0; f < 8; f++) {
            Run.of(withFile(f)).then("files 0 = " + (1 << f));
        }
    }

    private static void promise11WrongMounts() {
        for (int m : Scenes.NO_MOUNTS) {
            Run.refused(Scenes.BUSY, "files " + m, LayerMounts.BAD_ARG);
        }
        Run.refused(Scenes.BUSY, "files 2", LayerMounts.UNUSED);
        Run.refused(Scenes.BUSY, "files 3", LayerMounts.UNUSED);
    }

    // "read answers 0, and no code, for every m .. that is refused."
    private static void promise20EveryRefusedMount() {
        for (int m : Scenes.NO_MOUNTS) {
            for (int f : new int[] {-1, 0, 7, 8}) {
                Run.refused(Scenes.NEW, "read " + m + " " + f, 0);
                Run.refused(Scenes.BUSY, "read " + m + " " + f, 0);
                Run.refused(Scenes.SIX_LAYERS, "read " + m + " " + f, 0);
            }
        }
        for (int f = -1; f < 9; f++) {
            Run.refused(Scenes.BUSY, "read 2 " + f, 0);
            Run.refused(Scenes.BUSY, "read 3 " + f, 0);
            Run.refused(Scenes.SIX_LAYERS + "; unmount 0", "read 0 " + f, 0);
        }
    }

    // "read answers 0, and no code, for every .. f that is refused."
    private static void promise20EveryRefusedFile() {
        for (int f : Scenes.NO_FILES) {
            Run.refused(Scenes.NEW, "read 0 " + f, 0);
            Run.refused(Scenes.EMPTY, "read 0 " + f, 0);
            Run.refused(Scenes.BUSY, "read 0 " + f, 0);
            for (int m = 0; m < 4; m++) {
                Run.refused(Scenes.SIX_LAYERS, "read " + m + " " + f, 0);
            }
        }
    }

    /** Mount 0 on layer 1, which has both directories and file f alone, with content f + 1. */
    private static String withFile(int f) {
        return BOTH + "; write 0 " + f + " " + (f + 1) + "; commit 0";
    }
}
