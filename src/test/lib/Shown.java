/**
 * All that calls show of an object, as lines. As an object has 512 calls, each part is asked of one made anew by the same
 * calls; nothing that is asked changes what another part shows.
 */
public final class Shown {
    /** Makes the same object each time. */
    interface Made {
        Folder make();
    }

    private static final int NODES_AT_ONCE = 30;
    private static final int DEEDS_AT_ONCE = 40;
    private static final int STATES_AT_ONCE = 40;
    private static final int OCTETS_AT_ONCE = 200;

    private final Made made;
    private final StringBuilder lines = new StringBuilder();

    private Shown(Made made) {
        this.made = made;
    }

    static String of(Made made) {
        Shown shown = new Shown(made);
        shown.counts();
        shown.examples();
        shown.nodes();
        shown.deeds();
        shown.octets();
        for (int m = 0; m <= 3; m++) {
            shown.machine(m);
        }
        return shown.lines.toString();
    }

    private void line(String what, int answer) {
        lines.append(what).append(" = ").append(answer).append('\n');
    }

    private void counts() {
        Folder x = made.make();
        for (int what = 0; what <= 8; what++) {
            line("is(" + what + ")", x.is(what));
        }
        line("tries()", x.tries());
        line("fault()", x.fault());
        for (int m = 0; m <= 3; m++) {
            line("states(" + m + ")", x.states(m));
        }
    }

    private void examples() {
        Folder x = made.make();
        int many = x.is(1);
        for (int k = 0; k < many; k++) {
            for (int what = 0; what <= 3; what++) {
                line("which(" + k + ", " + what + ")", x.which(k, what));
            }
        }
    }

    private void nodes() {
        int many = made.make().is(3);
        Folder x = null;
        for (int k = 0; k < many; k++) {
            x = k % NODES_AT_ONCE == 0 ? made.make() : x;
            for (int what = 0; what <= 5; what++) {
                line("node(" + k + ", " + what + ")", x.node(k, what));
            }
        }
    }

    private void deeds() {
        int many = made.make().is(7);
        Folder x = null;
        for (int k = 0; k < many; k++) {
            x = k % DEEDS_AT_ONCE == 0 ? made.make() : x;
            for (int what = 0; what <= 3; what++) {
                line("deed(" + k + ", " + what + ")", x.deed(k, what));
            }
        }
    }

    private void octets() {
        Folder x = null;
        int octet = 0;
        for (int k = 0; octet != WordFolder.NONE; k++) {
            x = k % OCTETS_AT_ONCE == 0 ? made.make() : x;
            octet = x.octet(k);
            line("octet(" + k + ")", octet);
        }
    }

    private void machine(int m) {
        Folder first = made.make();
        int many = first.states(m);
        int letters = first.is(0);
        Folder x = null;
        for (int s = 0; s < many; s++) {
            x = s % STATES_AT_ONCE == 0 ? made.make() : x;
            for (int what = 0; what <= letters; what++) {
                line("state(" + m + ", " + s + ", " + what + ")", x.state(m, s, what));
            }
        }
    }
}
