/** What can be seen of an object. */
final class View {
    /** Above what toTheEnd takes of an object's calls. */
    static final int CALLS_TO_THE_END = 220;

    private View() {
    }

    /** All that can be seen without changing what is seen. It takes at most some 150 calls. */
    static String of(LayerMounts x) {
        StringBuilder seen = new StringBuilder();
        int spy = mounts(x, seen);
        layers(x, seen, spy);
        return seen.toString();
    }

    /** All that can be seen of an object that is not needed afterwards. */
    static String toTheEnd(LayerMounts x) {
        StringBuilder seen = new StringBuilder();
        int spy = mounts(x, seen);
        // What a mount was begun on shows in what it commits.
        for (int m = 0; m < 4; m++) {
            int made = x.commit(m);
            seen.append("commit ").append(made).append(" on ").append(x.base(made)).append('\n');
        }
        if (spy < 0) {
            spy = 3;
            seen.append("unmount ").append(x.unmount(spy)).append('\n');
        }
        layers(x, seen, spy);
        for (int m = 0; m < 4; m++) {
            seen.append("unmount ").append(x.unmount(m)).append(", drop");
            int dropped = x.drop();
            for (int n = 0; n < 7 && dropped >= 0; n++) {
                seen.append(' ').append(dropped);
                dropped = x.drop();
            }
            seen.append(' ').append(dropped).append('\n');
        }
        return seen.toString();
    }

    static String mount(LayerMounts x, int m) {
        StringBuilder seen = new StringBuilder();
        seen.append("directories ").append(x.directories(m));
        seen.append(" files ").append(x.files(m));
        seen.append(" changes ").append(x.changes(m));
        seen.append(" contents");
        for (int f = 0; f < 8; f++) {
            seen.append(' ').append(x.read(m, f));
        }
        return seen.toString();
    }

    /** Answers a mount that is not in use, or -1. */
    private static int mounts(LayerMounts x, StringBuilder seen) {
        int spare = -1;
        for (int m = 0; m < 4; m++) {
            seen.append("mount ").append(m).append(": ").append(mount(x, m)).append('\n');
            if (x.files(m) == LayerMounts.UNUSED) {
                spare = m;
            }
        }
        return spare;
    }

    private static void layers(LayerMounts x, StringBuilder seen, int spy) {
        int layers = x.layers();
        seen.append("layers ").append(layers).append('\n');
        for (int l = 0; l < layers; l++) {
            seen.append("layer ").append(l).append(": base ").append(x.base(l));
            for (int k = 0; k < l; k++) {
                seen.append(", ").append(x.compare(l, k));
            }
            if (spy >= 0) {
                // A layer's tree shows itself only in a mount begun on it.
                x.mount(spy, l);
                seen.append("; ").append(mount(x, spy));
                x.unmount(spy);
            }
            seen.append('\n');
        }
    }
}
