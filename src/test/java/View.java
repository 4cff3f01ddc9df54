/** All that can be seen of an object. It takes at most some 150 of its calls. */
final class View {
    private View() {
    }

    static String of(LayerMounts x) {
        StringBuilder seen = new StringBuilder();
        int spy = -1;
        for (int m = 0; m < 4; m++) {
            seen.append("mount ").append(m).append(": ").append(mount(x, m)).append('\n');
            if (x.files(m) == LayerMounts.UNUSED) {
                spy = m;
            }
        }
        int layers = x.layers();
        seen.append("layers ").append(layers).append('\n');
        for (int l = 0; l < layers; l++) {
            seen.append("layer ").append(l).append(": base ").append(x.base(l));
            for (int k = 0; k < l; k++) {
                seen.append(", ").append(x.compare(l, k));
            }
            if (spy >= 0) {
                // A layer's tree shows itself only in a mount begun on it.
                x.mount(spy, l);
                seen.append("; ").append(mount(x, spy));
                x.unmount(spy);
            }
            seen.append('\n');
        }
        return seen.toString();
    }

    static String mount(LayerMounts x, int m) {
        StringBuilder seen = new StringBuilder();
        seen.append("directories ").append(x.directories(m));
        seen.append(" files ").append(x.files(m));
        seen.append(" changes ").append(x.changes(m));
        seen.append(" contents");
        for (int f = 0; f < 8; f++) {
            seen.append(' ').append(x.read(m, f));
        }
        return seen.toString();
    }
}
