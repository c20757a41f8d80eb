/** All that can be asked of an object without changing it, as one text. It takes some sixty of its 512 calls. */
final class View {
    private View() {
    }

    static String of(SwitchedModules x) {
        StringBuilder text = new StringBuilder();
        text.append("version ").append(x.version()).append(", globals");
        for (int g = 0; g < 4; g++) {
            text.append(' ').append(x.global(g));
        }
        text.append(", changed");
        for (int p = 0; p < 6; p++) {
            text.append(x.changed(p) ? " yes" : " no");
        }
        text.append(", blocker ").append(x.blocker(1));
        tasks(x, text);
        objects(x, text);
        return text.toString();
    }

    private static void tasks(SwitchedModules x, StringBuilder text) {
        for (int task = 1; task <= 6 && x.state(task) != SwitchedModules.BAD; task++) {
            text.append("; task ").append(task).append(" state ").append(x.state(task));
            text.append(" result ").append(x.result(task));
            int frames = x.frames(task);
            for (int k = 0; k < frames; k++) {
                text.append(" frame");
                for (int what = 0; what < 5; what++) {
                    text.append(' ').append(x.frame(task, k, what));
                }
            }
        }
    }

    private static void objects(SwitchedModules x, StringBuilder text) {
        text.append("; heap ").append(x.heap());
        for (int o = 1; o <= 16; o++) {
            int type = x.typeOf(o);
            if (type != SwitchedModules.BAD) {
                text.append("; object ").append(o).append(" type ").append(type);
                for (int f = 0; f < 4; f++) {
                    text.append(' ').append(x.field(o, f));
                }
            }
        }
    }
}
