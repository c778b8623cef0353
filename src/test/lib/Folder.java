/** A WordFolder whose calls are counted, as the document promises nothing beyond the 512th; with words and texts as texts. */
public final class Folder {
    static final int MOST_CALLS = 512;

    private final WordFolder x = new WordFolder();
    private int calls = 0;

    private WordFolder call() {
        calls++;
        if (calls > MOST_CALLS) {
            throw new IllegalStateException("a test makes more than " + MOST_CALLS + " calls of one object");
        }
        return x;
    }

    int calls() {
        return calls;
    }

    /** The object itself, for tests that look into it. */
    WordFolder inside() {
        return x;
    }

    boolean letters(int n) {
        return call().letters(n);
    }

    int feed(int a, int b, int c, int d, int e) {
        return call().feed(a, b, c, d, e);
    }

    int end(int n) {
        return call().end(n);
    }

    int example(boolean isIn) {
        return call().example(isIn);
    }

    int drop(int k) {
        return call().drop(k);
    }

    int which(int k, int what) {
        return call().which(k, what);
    }

    int is(int what) {
        return call().is(what);
    }

    int node(int k, int what) {
        return call().node(k, what);
    }

    int writeNode(int k) {
        return call().writeNode(k);
    }

    int score(int how, int i, int j) {
        return call().score(how, i, j);
    }

    int merge(int i, int j) {
        return call().merge(i, j);
    }

    int step(int how) {
        return call().step(how);
    }

    int learn(int how) {
        return call().learn(how);
    }

    int undo() {
        return call().undo();
    }

    int deed(int k, int what) {
        return call().deed(k, what);
    }

    int least() {
        return call().least();
    }

    int tries() {
        return call().tries();
    }

    int target() {
        return call().target();
    }

    int fault() {
        return call().fault();
    }

    int keep(int m) {
        return call().keep(m);
    }

    int state(int m, int s, int what) {
        return call().state(m, s, what);
    }

    int states(int m) {
        return call().states(m);
    }

    int takes(int m) {
        return call().takes(m);
    }

    int words(int m, int n) {
        return call().words(m, n);
    }

    int apart(int m, int o) {
        return call().apart(m, o);
    }

    int small(int m) {
        return call().small(m);
    }

    int tight(int m) {
        return call().tight(m);
    }

    int taken(int m, int k) {
        return call().taken(m, k);
    }

    int wrong(int m) {
        return call().wrong(m);
    }

    int both(int m, int o, int how) {
        return call().both(m, o, how);
    }

    int useful(int m) {
        return call().useful(m);
    }

    int longest(int m) {
        return call().longest(m);
    }

    int text(int m) {
        return call().text(m);
    }

    int octet(int k) {
        return call().octet(k);
    }

    int teach(int n) {
        return call().teach(n);
    }

    int without(int how, int k) {
        return call().without(how, k);
    }

    int guess() {
        return call().guess();
    }

    int blind(int how) {
        return call().blind(how);
    }

    // ---- words and texts ----

    /** These bytes come behind the tape; of what the last twenty have too much, nothing stays. */
    Folder put(String text) {
        int earlier = text.length() % 20 == 0 ? 0 : is(8);
        for (int at = 0; at < text.length(); at += 20) {
            int[] five = new int[5];
            for (int k = 0; k < 20 && at + k < text.length(); k++) {
                five[k / 4] |= text.charAt(at + k) << 24 - k % 4 * 8;
            }
            feed(five[0], five[1], five[2], five[3], five[4]);
        }
        if (text.length() % 20 != 0) {
            end(earlier + text.length());
        }
        return this;
    }

    int in(String word) {
        return put(word).example(true);
    }

    int not(String word) {
        return put(word).example(false);
    }

    /** EXAMPLES, each with + (IN) or - (NOT) ahead of it: what the last one was answered. */
    int tell(String signed) {
        int answer = is(3);
        for (String one : signed.split(" ")) {
            answer = one.startsWith("+") ? in(one.substring(1)) : not(one.substring(1));
        }
        return answer;
    }

    int target(String text) {
        return put(text).target();
    }

    int takes(int m, String word) {
        return put(word).takes(m);
    }

    int guess(String word) {
        return put(word).guess();
    }

    /** The first so many bytes of what was written latest, or all, if there are not so many. */
    String written(int most) {
        StringBuilder all = new StringBuilder();
        for (int k = 0; k < most; k++) {
            int octet = octet(k);
            if (octet == WordFolder.NONE) {
                return all.toString();
            }
            all.append((char) octet);
        }
        return all.toString();
    }

    String written() {
        return written(MOST_CALLS);
    }

    /** A MACHINE's TEXT as it is written, and "none" if there is none. */
    String shown(int m) {
        return text(m) < 0 ? "none" : written();
    }

    String deedShown(int k) {
        return deed(k, 0) + " " + deed(k, 1) + " " + deed(k, 2) + " " + deed(k, 3);
    }

    /** The colour and NAME of each NODE: R RED, B BLUE, . neither. */
    String colours() {
        StringBuilder all = new StringBuilder();
        int nodes = is(3);
        for (int k = 0; k < nodes; k++) {
            all.append(k == 0 ? "" : " ").append(".RB".charAt(node(k, 5))).append(node(k, 4));
        }
        return all.toString();
    }
}
