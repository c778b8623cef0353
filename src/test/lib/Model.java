import java.util.ArrayDeque;
import java.util.ArrayList;
import java.util.Arrays;
import java.util.Comparator;
import java.util.Deque;
import java.util.HashMap;
import java.util.HashSet;
import java.util.LinkedHashMap;
import java.util.List;
import java.util.Map;
import java.util.Set;
import java.util.TreeMap;
import java.util.TreeSet;

/**
 * The document once more, word by word and with no thought for speed: words are texts, states are sets, what is undone
 * is copied before. It has the face of WordFolder and shares no code with it, so that both can be set against each other.
 */
public final class Model {
    static final Comparator<String> ORDER = Comparator.comparingInt(String::length).thenComparing(Comparator.naturalOrder());

    /** A machine: marks, and arrows by state and letter (-1: none). */
    static final class M {
        final List<Integer> marks = new ArrayList<>();
        final List<int[]> arrows = new ArrayList<>();

        int size() {
            return marks.size();
        }

        int go(int s, int l) {
            return s < 0 ? -1 : arrows.get(s)[l];
        }

        boolean in(int s) {
            return s >= 0 && marks.get(s) == 1;
        }

        boolean takes(String w) {
            int s = 0;
            for (char c : w.toCharArray()) {
                s = go(s, c - 'a');
            }
            return in(s);
        }
    }

    /** The states of a tree. */
    static final class States {
        final List<String> nodes;
        final int[] marks;
        List<TreeSet<Integer>> sets = new ArrayList<>();
        Set<Integer> redNodes = new HashSet<>();

        States(Map<String, Boolean> examples) {
            TreeSet<String> all = new TreeSet<>(ORDER);
            all.add("");
            for (String w : examples.keySet()) {
                for (int n = 0; n <= w.length(); n++) {
                    all.add(w.substring(0, n));
                }
            }
            nodes = new ArrayList<>(all);
            marks = new int[nodes.size()];
            for (int k = 0; k < marks.length; k++) {
                Boolean in = examples.get(nodes.get(k));
                marks[k] = in == null ? 0 : in ? 1 : 2;
                sets.add(new TreeSet<>(Set.of(k)));
            }
            redNodes.add(0);
        }

        States(States o) {
            nodes = o.nodes;
            marks = o.marks;
            for (TreeSet<Integer> s : o.sets) {
                sets.add(new TreeSet<>(s));
            }
            redNodes = new HashSet<>(o.redNodes);
        }

        TreeSet<Integer> of(int node) {
            for (TreeSet<Integer> s : sets) {
                if (s.contains(node)) {
                    return s;
                }
            }
            throw new IllegalStateException();
        }

        TreeSet<Integer> named(int name) {
            for (TreeSet<Integer> s : sets) {
                if (s.first() == name) {
                    return s;
                }
            }
            return null;
        }

        int mark(Set<Integer> state) {
            int bits = 0;
            for (int k : state) {
                bits |= marks[k];
            }
            return bits;
        }

        int marked() {
            int n = 0;
            for (Set<Integer> s : sets) {
                n += mark(s) != 0 ? 1 : 0;
            }
            return n;
        }

        boolean red(Set<Integer> state) {
            for (int k : state) {
                if (redNodes.contains(k)) {
                    return true;
                }
            }
            return false;
        }

        TreeSet<Integer> arrow(Set<Integer> state, char letter) {
            for (int k : state) {
                int to = nodes.indexOf(nodes.get(k) + letter);
                if (to >= 0) {
                    return of(to);
                }
            }
            return null;
        }

        boolean blue(Set<Integer> state) {
            if (red(state)) {
                return false;
            }
            for (Set<Integer> s : sets) {
                for (char c = 'a'; c <= 'd'; c++) {
                    if (red(s) && arrow(s, c) == state) {
                        return true;
                    }
                }
            }
            return false;
        }

        TreeSet<Integer> reds() {
            TreeSet<Integer> names = new TreeSet<>();
            for (TreeSet<Integer> s : sets) {
                if (red(s)) {
                    names.add(s.first());
                }
            }
            return names;
        }

        TreeSet<Integer> blues() {
            TreeSet<Integer> names = new TreeSet<>();
            for (TreeSet<Integer> s : sets) {
                if (blue(s)) {
                    names.add(s.first());
                }
            }
            return names;
        }

        void unite(TreeSet<Integer> a, TreeSet<Integer> b) {
            sets.remove(b);
            sets.remove(a);
            a.addAll(b);
            sets.add(a);
        }

        /** What a merge makes of them, or null if it fails. */
        States merged(int i, int j) {
            States s = new States(this);
            s.unite(s.named(i), s.named(j));
            while (s.foldOnce()) { }
            for (TreeSet<Integer> one : s.sets) {
                if (s.mark(one) == 3) {
                    return null;
                }
            }
            return s;
        }

        boolean foldOnce() {
            for (TreeSet<Integer> one : sets) {
                for (char c = 'a'; c <= 'd'; c++) {
                    TreeSet<Integer> first = null;
                    for (int k : one) {
                        int to = nodes.indexOf(nodes.get(k) + c);
                        TreeSet<Integer> there = to < 0 ? null : of(to);
                        if (there != null && first != null && there != first) {
                            unite(first, there);
                            return true;
                        }
                        first = there != null ? there : first;
                    }
                }
            }
            return false;
        }

        int score(int how, int i, int j) {
            States s = merged(i, j);
            if (s == null) {
                return -1;
            }
            return how == 0 ? 0 : how == 1 ? marked() - s.marked() : sets.size() - s.sets.size();
        }

        M machine() {
            List<TreeSet<Integer>> byName = new ArrayList<>(sets);
            byName.sort(Comparator.comparingInt(TreeSet::first));
            M m = new M();
            for (TreeSet<Integer> s : byName) {
                int[] to = new int[4];
                for (int l = 0; l < 4; l++) {
                    TreeSet<Integer> t = arrow(s, (char) ('a' + l));
                    to[l] = t == null ? -1 : byName.indexOf(t);
                }
                m.marks.add(mark(s));
                m.arrows.add(to);
            }
            return m;
        }
    }

    private int letters = 2;
    private final TreeMap<String, Boolean> examples = new TreeMap<>(ORDER);
    private States now = new States(examples);
    private final Deque<States> before = new ArrayDeque<>();
    private final List<int[]> deeds = new ArrayList<>();
    private final M[] machines = new M[4];
    private String tape = "";
    private String written = "";
    private int tries = 0;
    private int fault = -1;

    private void restart() {
        now = new States(examples);
        before.clear();
        deeds.clear();
    }

    public boolean letters(int n) {
        if (n < 1 || n > 4) {
            return false;
        }
        letters = n;
        examples.clear();
        Arrays.fill(machines, null);
        restart();
        return true;
    }

    public int feed(int a, int b, int c, int d, int e) {
        if (tape.length() > 780) {
            return -1;
        }
        for (int x : new int[] {a, b, c, d, e}) {
            for (int k = 24; k >= 0; k -= 8) {
                tape += (char) (x >>> k & 255);
            }
        }
        return tape.length();
    }

    public int end(int n) {
        if (n < 0 || n > tape.length()) {
            return -1;
        }
        tape = tape.substring(0, n);
        return n;
    }

    private String word() {
        String w = tape;
        tape = "";
        return w.matches("[a-" + (char) ('a' + letters - 1) + "]{0,10}") ? w : null;
    }

    public int example(boolean isIn) {
        String w = word();
        return w == null ? -2 : add(w, isIn);
    }

    private int add(String w, boolean isIn) {
        if (examples.containsKey(w)) {
            return examples.get(w) == isIn ? now.nodes.size() : -3;
        }
        if (examples.size() == 40) {
            return -4;
        }
        TreeMap<String, Boolean> more = new TreeMap<>(examples);
        more.put(w, isIn);
        if (new States(more).nodes.size() > 120) {
            return -5;
        }
        examples.put(w, isIn);
        restart();
        return now.nodes.size();
    }

    private String exampleWord(int k) {
        return k < 0 || k >= examples.size() ? null : new ArrayList<>(examples.keySet()).get(k);
    }

    public int drop(int k) {
        String w = exampleWord(k);
        if (w == null) {
            return -1;
        }
        examples.remove(w);
        restart();
        return examples.size();
    }

    public int which(int k, int what) {
        String w = exampleWord(k);
        if (w == null || what < 0 || what > 3) {
            return -2;
        }
        int node = now.nodes.indexOf(w);
        return new int[] {node, examples.get(w) ? 1 : 0, w.length(), now.of(node).first()}[what];
    }

    public int is(int what) {
        if (what < 0 || what > 8) {
            return -1;
        }
        int in = 0;
        for (boolean b : examples.values()) {
            in += b ? 1 : 0;
        }
        return new int[] {letters, examples.size(), in, now.nodes.size(), now.sets.size(), now.reds().size(),
            now.blues().size(), deeds.size(), tape.length()}[what];
    }

    public int node(int k, int what) {
        if (k < 0 || k >= now.nodes.size() || what < 0 || what > 5) {
            return -2;
        }
        String w = now.nodes.get(k);
        TreeSet<Integer> s = now.of(k);
        return new int[] {now.marks[k],
            k == 0 ? -1 : now.nodes.indexOf(w.substring(0, w.length() - 1)),
            k == 0 ? -1 : w.charAt(w.length() - 1) - 'a',
            w.length(), s.first(), now.red(s) ? 1 : now.blue(s) ? 2 : 0}[what];
    }

    private int write(String s) {
        written = s;
        return s.length();
    }

    public int writeNode(int k) {
        return k < 0 || k >= now.nodes.size() ? -1 : write(now.nodes.get(k));
    }

    private static boolean way(int how) {
        return how >= 0 && how <= 2;
    }

    private boolean unlike(int i, int j) {
        return i != j && now.named(i) != null && now.named(j) != null;
    }

    public int score(int how, int i, int j) {
        return !way(how) || !unlike(i, j) ? -2 : now.score(how, i, j);
    }

    public int merge(int i, int j) {
        if (!unlike(i, j)) {
            return -2;
        }
        if (deeds.size() == 200) {
            return -3;
        }
        return doMerge(i, j, 0) ? now.sets.size() : -1;
    }

    private boolean doMerge(int i, int j, int score) {
        States then = now.merged(i, j);
        if (then == null) {
            return false;
        }
        before.push(now);
        now = then;
        deeds.add(new int[] {1, i, j, score});
        return true;
    }

    private void redden(int name) {
        before.push(now);
        now = new States(now);
        now.redNodes.addAll(now.named(name));
        deeds.add(new int[] {0, name, -1, 0});
    }

    public int step(int how) {
        if (!way(how)) {
            return -2;
        }
        if (now.blues().isEmpty()) {
            return -1;
        }
        if (deeds.size() == 200) {
            return -3;
        }
        oneStep(how);
        return now.sets.size();
    }

    private void oneStep(int how) {
        TreeSet<Integer> reds = now.reds();
        TreeSet<Integer> blues = now.blues();
        if (how == 0) {
            for (int r : reds) {
                if (doMerge(blues.first(), r, 0)) {
                    return;
                }
            }
            redden(blues.first());
            return;
        }
        int[] best = null;
        for (int b : blues) {
            boolean can = false;
            for (int r : reds) {
                int s = now.score(how, b, r);
                can |= s >= 0;
                if (s >= 0 && (best == null || s > best[2])) {
                    best = new int[] {b, r, s};
                }
            }
            if (!can) {
                redden(b);
                return;
            }
        }
        doMerge(best[0], best[1], best[2]);
    }

    public int learn(int how) {
        if (!way(how)) {
            return -2;
        }
        restart();
        while (!now.blues().isEmpty()) {
            oneStep(how);
        }
        return now.sets.size();
    }

    public int undo() {
        if (deeds.isEmpty()) {
            return -1;
        }
        now = before.pop();
        deeds.remove(deeds.size() - 1);
        return deeds.size();
    }

    public int deed(int k, int what) {
        return k < 0 || k >= deeds.size() || what < 0 || what > 3 ? -2 : deeds.get(k)[what];
    }

    // ---- the least ----

    private static final class TooMany extends RuntimeException {
        private static final long serialVersionUID = 1L;
    }

    public int least() {
        tries = 0;
        try {
            for (int n = 1; n <= 8; n++) {
                M m = new M();
                int[] put = new int[now.nodes.size()];
                if (place(0, n, m, put)) {
                    machines[1] = m;
                    return m.size();
                }
            }
        } catch (TooMany e) {
            return -3;
        }
        return -2;
    }

    private boolean place(int k, int n, M m, int[] put) {
        if (k == put.length) {
            return true;
        }
        String w = now.nodes.get(k);
        if (k == 0) {
            return placeAt(k, 0, n, m, put);
        }
        int from = put[now.nodes.indexOf(w.substring(0, w.length() - 1))];
        int l = w.charAt(w.length() - 1) - 'a';
        if (m.go(from, l) >= 0) {
            return placeAt(k, m.go(from, l), n, m, put);
        }
        for (int s = 0; s <= m.size() && s < n; s++) {
            m.arrows.get(from)[l] = s;
            if (placeAt(k, s, n, m, put)) {
                return true;
            }
            m.arrows.get(from)[l] = -1;
        }
        return false;
    }

    private boolean placeAt(int k, int s, int n, M m, int[] put) {
        if (tries == 50000) {
            throw new TooMany();
        }
        tries++;
        boolean fresh = s == m.size();
        if (fresh) {
            m.marks.add(0);
            m.arrows.add(new int[] {-1, -1, -1, -1});
        }
        int was = m.marks.get(s);
        boolean done = false;
        if ((was | now.marks[k]) != 3) {
            m.marks.set(s, was | now.marks[k]);
            put[k] = s;
            done = place(k + 1, n, m, put);
        }
        if (!done) {
            m.marks.set(s, was);
            if (fresh) {
                m.marks.remove(s);
                m.arrows.remove(s);
            }
        }
        return done;
    }

    public int tries() {
        return tries;
    }

    // ---- machines ----

    public int target() {
        String t = tape;
        tape = "";
        fault = faultOf(t);
        if (fault >= 0) {
            return -1;
        }
        machines[2] = parse(t);
        return machines[2].size();
    }

    private String stateForm() {
        StringBuilder f = new StringBuilder("[?+-]");
        for (int l = 0; l < letters; l++) {
            f.append("(").append((char) ('a' + l)).append("(0|[1-9][0-9]?))?");
        }
        return f.append(";").toString();
    }

    private M parse(String t) {
        M m = new M();
        for (String one : t.split(";")) {
            m.marks.add("?+-".indexOf(one.charAt(0)));
            int[] to = {-1, -1, -1, -1};
            for (String arrow : one.substring(1).split("(?=[a-d])")) {
                if (!arrow.isEmpty()) {
                    to[arrow.charAt(0) - 'a'] = Integer.parseInt(arrow.substring(1));
                }
            }
            m.arrows.add(to);
        }
        return m;
    }

    /** Whether some text of the form begins with this one: what is lacking at its end is tried. */
    private boolean goesOn(String begin, String form) {
        for (String rest : new String[] {"", ";", "0;", "?;"}) {
            if ((begin + rest).matches("(" + form + "){1,40}")) {
                return true;
            }
        }
        return false;
    }

    private int faultOf(String t) {
        String form = stateForm();
        for (int n = 1; n <= t.length(); n++) {
            if (!goesOn(t.substring(0, n), form)) {
                return n - 1;
            }
        }
        if (!t.matches("(" + form + "){1,40}")) {
            return t.length();
        }
        int many = t.split(";").length;
        for (int k = 0; k < t.length(); k++) {
            if (Character.isLetter(t.charAt(k))) {
                String number = t.substring(k + 1).split("[^0-9]")[0];
                if (Integer.parseInt(number) >= many) {
                    return k + 1;
                }
            }
        }
        return -1;
    }

    public int fault() {
        return fault;
    }

    private M machine(int m) {
        return m < 0 || m > 3 ? null : m == 0 ? now.machine() : machines[m];
    }

    public int keep(int m) {
        if (m == 3 || machine(m) == null) {
            return -1;
        }
        machines[3] = machine(m);
        return machines[3].size();
    }

    public int state(int m, int s, int what) {
        M one = machine(m);
        if (one == null || s < 0 || s >= one.size() || what < 0 || what > letters) {
            return -2;
        }
        return what == 0 ? one.marks.get(s) : one.go(s, what - 1);
    }

    public int states(int m) {
        return machine(m) == null ? -1 : machine(m).size();
    }

    public int takes(int m) {
        String w = word();
        if (machine(m) == null) {
            return -1;
        }
        return w == null ? -2 : machine(m).takes(w) ? 1 : 0;
    }

    private long count(M m, int s, int n, Map<Integer, Long> known) {
        if (s < 0) {
            return 0;
        }
        if (n == 0) {
            return m.in(s) ? 1 : 0;
        }
        Long had = known.get(n * 1000 + s);
        if (had != null) {
            return had;
        }
        long sum = 0;
        for (int l = 0; l < letters; l++) {
            sum += count(m, m.go(s, l), n - 1, known);
        }
        known.put(n * 1000 + s, sum);
        return sum;
    }

    public int words(int m, int n) {
        M one = machine(m);
        return one == null || n < 0 || n > 10 ? -1 : (int) count(one, 0, n, new HashMap<>());
    }

    public int taken(int m, int k) {
        M one = machine(m);
        if (one == null || k < 0) {
            return -1;
        }
        int[] left = {k};
        Map<Integer, Long> known = new HashMap<>();
        for (int n = 0; n <= 10; n++) {
            String found = walk(one, 0, n, "", left, known);
            if (found != null) {
                return write(found);
            }
        }
        return -2;
    }

    /** Goes through all words by order; branches that hold none are not entered. */
    private String walk(M m, int s, int n, String w, int[] left, Map<Integer, Long> known) {
        if (count(m, s, n, known) == 0) {
            return null;
        }
        if (n == 0) {
            return left[0]-- == 0 ? w : null;
        }
        for (int l = 0; l < letters; l++) {
            String found = walk(m, m.go(s, l), n - 1, w + (char) ('a' + l), left, known);
            if (found != null) {
                return found;
            }
        }
        return null;
    }

    public int apart(int m, int o) {
        M a = machine(m);
        M b = machine(o);
        if (a == null || b == null) {
            return -1;
        }
        LinkedHashMap<List<Integer>, String> seen = pairs(a, b, Integer.MAX_VALUE);
        for (Map.Entry<List<Integer>, String> e : seen.entrySet()) {
            if (a.in(e.getKey().get(0)) != b.in(e.getKey().get(1))) {
                return write(e.getValue());
            }
        }
        return -2;
    }

    /** All pairs that can be come to with the first word by which, by order. */
    private LinkedHashMap<List<Integer>, String> pairs(M a, M b, int most) {
        LinkedHashMap<List<Integer>, String> seen = new LinkedHashMap<>();
        Deque<List<Integer>> open = new ArrayDeque<>();
        seen.put(List.of(0, 0), "");
        open.add(List.of(0, 0));
        while (!open.isEmpty() && seen.size() <= most) {
            List<Integer> p = open.remove();
            for (int l = 0; l < letters; l++) {
                List<Integer> q = List.of(a.go(p.get(0), l), b.go(p.get(1), l));
                if (!seen.containsKey(q)) {
                    seen.put(q, seen.get(p) + (char) ('a' + l));
                    open.add(q);
                }
            }
        }
        return seen;
    }

    public int both(int m, int o, int how) {
        M a = machine(m);
        M b = machine(o);
        if (a == null || b == null || how < 0 || how > 2) {
            return -1;
        }
        LinkedHashMap<List<Integer>, String> seen = pairs(a, b, 200);
        if (seen.size() > 200) {
            return -3;
        }
        List<List<Integer>> list = new ArrayList<>(seen.keySet());
        M made = new M();
        for (List<Integer> p : list) {
            boolean x = a.in(p.get(0));
            boolean y = b.in(p.get(1));
            made.marks.add((how == 0 ? x && y : how == 1 ? x || y : x && !y) ? 1 : 2);
            int[] to = {-1, -1, -1, -1};
            for (int l = 0; l < letters; l++) {
                to[l] = list.indexOf(List.of(a.go(p.get(0), l), b.go(p.get(1), l)));
            }
            made.arrows.add(to);
        }
        machines[3] = made;
        return made.size();
    }

    /** The least machine with all arrows, by marking which states (the last one: none) can be told apart. */
    private M tightOf(M m) {
        int n = m.size();
        boolean[][] apart = new boolean[n + 1][n + 1];
        for (int a = 0; a <= n; a++) {
            for (int b = 0; b <= n; b++) {
                apart[a][b] = in(m, a) != in(m, b);
            }
        }
        boolean more = true;
        while (more) {
            more = false;
            for (int a = 0; a <= n; a++) {
                for (int b = 0; b <= n; b++) {
                    for (int l = 0; l < letters && !apart[a][b]; l++) {
                        if (apart[go(m, a, l)][go(m, b, l)]) {
                            apart[a][b] = true;
                            more = true;
                        }
                    }
                }
            }
        }
        List<Integer> found = new ArrayList<>(List.of(0));
        M made = new M();
        for (int k = 0; k < found.size(); k++) {
            int[] to = {-1, -1, -1, -1};
            for (int l = 0; l < letters; l++) {
                int t = go(m, found.get(k), l);
                for (int j = 0; j < found.size(); j++) {
                    if (!apart[found.get(j)][t]) {
                        to[l] = j;
                    }
                }
                if (to[l] < 0) {
                    to[l] = found.size();
                    found.add(t);
                }
            }
            made.marks.add(in(m, found.get(k)) ? 1 : 2);
            made.arrows.add(to);
        }
        return made;
    }

    private static boolean in(M m, int s) {
        return s < m.size() && m.in(s);
    }

    private static int go(M m, int s, int l) {
        int to = s < m.size() ? m.go(s, l) : -1;
        return to < 0 ? m.size() : to;
    }

    public int small(int m) {
        return machine(m) == null ? -1 : tightOf(machine(m)).size();
    }

    public int tight(int m) {
        if (machine(m) == null) {
            return -1;
        }
        machines[3] = tightOf(machine(m));
        return machines[3].size();
    }

    public int wrong(int m) {
        M one = machine(m);
        if (one == null) {
            return -1;
        }
        int n = 0;
        for (Map.Entry<String, Boolean> e : examples.entrySet()) {
            n += one.takes(e.getKey()) != e.getValue() ? 1 : 0;
        }
        return n;
    }

    private Set<Integer> from(M m, int s) {
        Set<Integer> seen = new HashSet<>(Set.of(s));
        Deque<Integer> open = new ArrayDeque<>(seen);
        while (!open.isEmpty()) {
            int k = open.remove();
            for (int l = 0; l < letters; l++) {
                if (m.go(k, l) >= 0 && seen.add(m.go(k, l))) {
                    open.add(m.go(k, l));
                }
            }
        }
        return seen;
    }

    private Set<Integer> usefulOf(M m) {
        Set<Integer> good = new HashSet<>();
        for (int s : from(m, 0)) {
            for (int t : from(m, s)) {
                if (m.in(t)) {
                    good.add(s);
                }
            }
        }
        return good;
    }

    public int useful(int m) {
        return machine(m) == null ? -1 : usefulOf(machine(m)).size();
    }

    public int longest(int m) {
        M one = machine(m);
        if (one == null) {
            return -1;
        }
        Set<Integer> good = usefulOf(one);
        if (good.isEmpty()) {
            return -2;
        }
        for (int s : good) {
            for (int l = 0; l < letters; l++) {
                int t = one.go(s, l);
                if (good.contains(t) && from(one, t).contains(s)) {
                    return -3;
                }
            }
        }
        return far(one, 0, good, new HashMap<>());
    }

    private int far(M m, int s, Set<Integer> good, Map<Integer, Integer> known) {
        if (known.containsKey(s)) {
            return known.get(s);
        }
        int best = 0;
        for (int l = 0; l < letters; l++) {
            int t = m.go(s, l);
            if (good.contains(t)) {
                best = Math.max(best, 1 + far(m, t, good, known));
            }
        }
        known.put(s, best);
        return best;
    }

    public int text(int m) {
        M one = machine(m);
        if (one == null) {
            return -1;
        }
        StringBuilder t = new StringBuilder();
        for (int s = 0; s < one.size(); s++) {
            t.append("?+-".charAt(one.marks.get(s)));
            for (int l = 0; l < letters; l++) {
                if (one.go(s, l) >= 0) {
                    t.append((char) ('a' + l)).append(one.go(s, l));
                }
            }
            t.append(';');
        }
        return write(t.toString());
    }

    public int octet(int k) {
        return k < 0 || k >= written.length() ? -1 : written.charAt(k);
    }

    // ---- teaching and guessing ----

    public int teach(int n) {
        if (n < 0 || n > 5 || machines[2] == null) {
            return -1;
        }
        int came = 0;
        List<String> level = List.of("");
        for (int length = 0; length <= n; length++) {
            List<String> next = new ArrayList<>();
            for (String w : level) {
                if (!examples.containsKey(w)) {
                    if (add(w, machines[2].takes(w)) < 0) {
                        return came;
                    }
                    came++;
                }
                for (int l = 0; l < letters; l++) {
                    next.add(w + (char) ('a' + l));
                }
            }
            level = next;
        }
        return came;
    }

    /** An object of its own that has learnt all examples but one. */
    private Model learnt(int how, String but) {
        Model other = new Model();
        other.letters = letters;
        other.examples.putAll(examples);
        if (but != null) {
            other.examples.remove(but);
        }
        other.learn(how);
        return other;
    }

    public int without(int how, int k) {
        String w = exampleWord(k);
        return !way(how) || w == null ? -2 : learnt(how, w).now.sets.size();
    }

    public int guess() {
        String w = word();
        if (w == null) {
            return -2;
        }
        int bits = 0;
        for (int how = 0; how < 3; how++) {
            bits += learnt(how, null).machine(0).takes(w) ? 1 << how : 0;
        }
        return bits;
    }

    public int blind(int how) {
        if (!way(how)) {
            return -2;
        }
        int right = 0;
        for (Map.Entry<String, Boolean> e : examples.entrySet()) {
            right += learnt(how, e.getKey()).machine(0).takes(e.getKey()) == e.getValue() ? 1 : 0;
        }
        return right;
    }
}
