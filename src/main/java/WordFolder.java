/**
 * A learner of sets of words from examples. The words told make a tree, whose states are merged by evidence, red and
 * blue; machines that come of it, or are told as texts, are run, measured and set against each other.
 *
 * All rows are made once, in the constructor: no call makes an object.
 */
public final class WordFolder {
    public static final int NONE = -1;

    private static final int OTHER = -2;
    private static final int TOO_MUCH = -3;
    private static final int TOLD_OTHERWISE = -3;
    private static final int FULL_SAMPLE = -4;
    private static final int FULL_TREE = -5;

    private static final int MARK_IN = 1;
    private static final int MARK_NOT = 2;

    private static final int FIRST = 0;
    private static final int EVIDENCE = 1;
    private static final int SIZE = 2;

    private static final int MOST_LETTERS = 4;
    private static final int LONGEST_WORD = 10;
    private static final int LONGEST_TAUGHT = 5;
    private static final int MOST_EXAMPLES = 40;
    private static final int MOST_NODES = 120;
    private static final int MOST_DEEDS = 200;
    private static final int MOST_TAPE = 800;
    private static final int MOST_TOLD = 40;
    private static final int MOST_TRIED = 8;
    private static final int MOST_TRIES = 50000;
    private static final int MOST_PAIRED = 200;
    /** The most STATES a MACHINE can have, and one more for where missing ARROWS lead. */
    private static final int MOST_STATES = MOST_PAIRED + 1;
    /** A TEXT's STATE has its MARK, its end, and for each LETTER that and a number of up to three digits. */
    private static final int MOST_WRITTEN = MOST_STATES * (2 + MOST_LETTERS * 4);

    private final Octets tape = new Octets(MOST_TAPE);
    private final Octets written = new Octets(MOST_WRITTEN);
    private final Sample sample = new Sample();
    private final Tree tree = new Tree();
    private final Learner learner = new Learner();
    private final Tree otherTree = new Tree();
    private final Learner otherLearner = new Learner();
    private final Machine present = new Machine(MOST_NODES);
    private final Machine smallest = new Machine(MOST_TRIED);
    private final Machine aim = new Machine(MOST_TOLD);
    private final Machine stored = new Machine(MOST_STATES);
    private final Search search = new Search();
    private final Reader reader = new Reader();
    private final Meter meter = new Meter();
    private final Mill mill = new Mill();
    private int alphabet = 2;
    private int faultPlace = NONE;

    public WordFolder() {
        tree.build(sample, NONE);
        learner.begin(tree);
    }

    // ---- what is told ----

    public boolean letters(int n) {
        if (n < 1 || n > MOST_LETTERS) {
            return false;
        }
        alphabet = n;
        sample.clear();
        smallest.clear();
        aim.clear();
        stored.clear();
        tree.build(sample, NONE);
        learner.begin(tree);
        return true;
    }

    public int feed(int a, int b, int c, int d, int e) {
        if (tape.count + 20 > MOST_TAPE) {
            return NONE;
        }
        tape.putFour(a);
        tape.putFour(b);
        tape.putFour(c);
        tape.putFour(d);
        tape.putFour(e);
        return tape.count;
    }

    public int end(int n) {
        if (n < 0 || n > tape.count) {
            return NONE;
        }
        tape.cut(n);
        return n;
    }

    public int example(boolean isIn) {
        int code = wordOfTape();
        return code == NONE ? OTHER : addExample(code, isIn);
    }

    public int drop(int k) {
        if (!sample.has(k)) {
            return NONE;
        }
        sample.remove(k);
        tree.build(sample, NONE);
        learner.begin(tree);
        return sample.count;
    }

    public int teach(int n) {
        if (n < 0 || n > LONGEST_TAUGHT || aim.count == 0) {
            return NONE;
        }
        int earlier = sample.count;
        int many = 1;
        for (int length = 0; length <= n; length++) {
            for (int k = 0; k < many; k++) {
                int code = Word.numbered(k, length, alphabet);
                if (!sample.holds(code) && addExample(code, aim.accepts(code)) < 0) {
                    return sample.count - earlier;
                }
            }
            many *= alphabet;
        }
        return sample.count - earlier;
    }

    /** The WORD on the tape, which is empty then; NONE if it is no WORD. */
    private int wordOfTape() {
        int code = tape.asWord(alphabet);
        tape.cut(0);
        return code;
    }

    private int addExample(int code, boolean isIn) {
        int place = sample.placeOf(code);
        if (sample.holds(code)) {
            return sample.isIn(place) == isIn ? tree.count : TOLD_OTHERWISE;
        }
        if (sample.count >= MOST_EXAMPLES) {
            return FULL_SAMPLE;
        }
        if (tree.count + tree.lacking(code) > MOST_NODES) {
            return FULL_TREE;
        }
        sample.insert(place, code, isIn);
        tree.addWord(code);
        tree.link(sample, NONE);
        learner.begin(tree);
        return tree.count;
    }

    // ---- what there is ----

    public int which(int k, int what) {
        if (!sample.has(k)) {
            return OTHER;
        }
        int code = sample.codeOf(k);
        switch (what) {
            case 0: return tree.nodeOf(code);
            case 1: return sample.isIn(k) ? 1 : 0;
            case 2: return Word.lengthOf(code);
            case 3: return learner.fold.nameOf(tree.nodeOf(code));
            default: return OTHER;
        }
    }

    public int is(int what) {
        switch (what) {
            case 0: return alphabet;
            case 1: return sample.count;
            case 2: return sample.countIn();
            case 3: return tree.count;
            case 4: return learner.fold.count;
            case 5: learner.paint(); return learner.redCount;
            case 6: learner.paint(); return learner.blueCount;
            case 7: return learner.deedCount;
            case 8: return tape.count;
            default: return NONE;
        }
    }

    public int node(int k, int what) {
        if (!tree.has(k)) {
            return OTHER;
        }
        switch (what) {
            case 0: return tree.mark[k];
            case 1: return tree.parent[k];
            case 2: return k == 0 ? NONE : Word.lastOf(tree.code[k]);
            case 3: return Word.lengthOf(tree.code[k]);
            case 4: return learner.fold.nameOf(k);
            case 5: return learner.colourOf(k);
            default: return OTHER;
        }
    }

    public int writeNode(int k) {
        if (!tree.has(k)) {
            return NONE;
        }
        written.cut(0);
        written.putWord(tree.code[k]);
        return written.count;
    }

    // ---- merges, steps, deeds ----

    public int score(int how, int i, int j) {
        if (!isWay(how) || !learner.fold.areUnlike(i, j)) {
            return OTHER;
        }
        return learner.fold.worth(how, i, j);
    }

    public int merge(int i, int j) {
        if (!learner.fold.areUnlike(i, j)) {
            return OTHER;
        }
        if (learner.deedCount >= MOST_DEEDS) {
            return TOO_MUCH;
        }
        return learner.doMerge(i, j, 0) ? learner.fold.count : NONE;
    }

    public int step(int how) {
        if (!isWay(how)) {
            return OTHER;
        }
        learner.paint();
        if (learner.blueCount == 0) {
            return NONE;
        }
        if (learner.deedCount >= MOST_DEEDS) {
            return TOO_MUCH;
        }
        learner.doStep(how);
        return learner.fold.count;
    }

    public int learn(int how) {
        return isWay(how) ? learner.learnFrom(tree, how) : OTHER;
    }

    public int undo() {
        return learner.takeBackDeed() ? learner.deedCount : NONE;
    }

    public int deed(int k, int what) {
        return learner.deedOf(k, what);
    }

    private static boolean isWay(int how) {
        return how >= FIRST && how <= SIZE;
    }

    // ---- what learning would come to ----

    public int without(int how, int k) {
        if (!isWay(how) || !sample.has(k)) {
            return OTHER;
        }
        otherTree.build(sample, k);
        return otherLearner.learnFrom(otherTree, how);
    }

    public int guess() {
        int code = wordOfTape();
        if (code == NONE) {
            return OTHER;
        }
        int bits = 0;
        for (int how = FIRST; how <= SIZE; how++) {
            otherLearner.learnFrom(tree, how);
            if (otherLearner.fold.accepts(code)) {
                bits |= 1 << how;
            }
        }
        return bits;
    }

    public int blind(int how) {
        if (!isWay(how)) {
            return OTHER;
        }
        int right = 0;
        for (int k = 0; k < sample.count; k++) {
            otherTree.build(sample, k);
            otherLearner.learnFrom(otherTree, how);
            if (otherLearner.fold.accepts(sample.codeOf(k)) == sample.isIn(k)) {
                right++;
            }
        }
        return right;
    }

    // ---- machines ----

    public int least() {
        int found = search.find(tree);
        if (found > 0) {
            search.tell(smallest);
        }
        return found;
    }

    public int tries() {
        return search.tryCount;
    }

    public int target() {
        faultPlace = reader.read(tape, alphabet);
        tape.cut(0);
        if (faultPlace != NONE) {
            return NONE;
        }
        aim.copy(reader.told);
        return aim.count;
    }

    public int fault() {
        return faultPlace;
    }

    public int keep(int m) {
        if (m == 3 || !isThere(m)) {
            return NONE;
        }
        stored.copy(machine(m));
        return stored.count;
    }

    public int state(int m, int s, int what) {
        if (!isThere(m)) {
            return OTHER;
        }
        Machine one = machine(m);
        if (!one.has(s) || what < 0 || what > alphabet) {
            return OTHER;
        }
        return what == 0 ? one.mark[s] : one.follow(s, what - 1);
    }

    public int states(int m) {
        return isThere(m) ? machine(m).count : NONE;
    }

    public int takes(int m) {
        int code = wordOfTape();
        if (!isThere(m)) {
            return NONE;
        }
        if (code == NONE) {
            return OTHER;
        }
        return machine(m).accepts(code) ? 1 : 0;
    }

    public int words(int m, int n) {
        if (!isThere(m) || n < 0 || n > LONGEST_WORD) {
            return NONE;
        }
        meter.countWays(machine(m), alphabet, n);
        return meter.waysOf(0, n);
    }

    public int taken(int m, int k) {
        if (!isThere(m) || k < 0) {
            return NONE;
        }
        int code = meter.wordTaken(machine(m), alphabet, k);
        if (code == NONE) {
            return OTHER;
        }
        written.cut(0);
        written.putWord(code);
        return written.count;
    }

    public int wrong(int m) {
        if (!isThere(m)) {
            return NONE;
        }
        Machine one = machine(m);
        int many = 0;
        for (int k = 0; k < sample.count; k++) {
            if (one.accepts(sample.codeOf(k)) != sample.isIn(k)) {
                many++;
            }
        }
        return many;
    }

    public int useful(int m) {
        return isThere(m) ? meter.findUseful(machine(m), alphabet) : NONE;
    }

    public int longest(int m) {
        return isThere(m) ? meter.longestTaken(machine(m), alphabet) : NONE;
    }

    public int text(int m) {
        if (!isThere(m)) {
            return NONE;
        }
        written.cut(0);
        machine(m).write(written, alphabet);
        return written.count;
    }

    public int octet(int k) {
        return written.at(k);
    }

    public int apart(int m, int o) {
        if (!isThere(m) || !isThere(o)) {
            return NONE;
        }
        int found = mill.findApart(machine(m), machine(o), alphabet);
        if (found == NONE) {
            return OTHER;
        }
        mill.writeWay(found, written);
        return written.count;
    }

    public int small(int m) {
        return isThere(m) ? mill.shrink(machine(m), alphabet) : NONE;
    }

    public int tight(int m) {
        if (!isThere(m)) {
            return NONE;
        }
        mill.shrink(machine(m), alphabet);
        mill.tellShrunk(stored, alphabet);
        return stored.count;
    }

    public int both(int m, int o, int how) {
        if (!isThere(m) || !isThere(o) || how < Mill.IN_BOTH || how > Mill.IN_FIRST_ALONE) {
            return NONE;
        }
        if (!mill.putTogether(machine(m), machine(o), how, alphabet, MOST_PAIRED)) {
            return TOO_MUCH;
        }
        stored.copy(mill.made);
        return stored.count;
    }

    private boolean isThere(int m) {
        switch (m) {
            case 0: return true;
            case 1: return smallest.count > 0;
            case 2: return aim.count > 0;
            case 3: return stored.count > 0;
            default: return false;
        }
    }

    private Machine machine(int m) {
        switch (m) {
            case 1: return smallest;
            case 2: return aim;
            case 3: return stored;
            default: learner.fold.tell(present); return present;
        }
    }

    /**
     * A WORD as one number, its length above two bits for each LETTER, the first one highest: so the ORDER of WORDS is
     * that of their numbers. The empty WORD is 0.
     */
    private static final class Word {
        private static final int LENGTH_AT = 2 * LONGEST_WORD;
        private static final int LETTERS_OF = (1 << LENGTH_AT) - 1;

        private Word() {
        }

        static int lengthOf(int code) {
            return code >> LENGTH_AT;
        }

        static int letterOf(int code, int place) {
            return code >> 2 * (lengthOf(code) - 1 - place) & 3;
        }

        static int lastOf(int code) {
            return code & 3;
        }

        static int longer(int code, int letter) {
            return lengthOf(code) + 1 << LENGTH_AT | (code & LETTERS_OF) << 2 & LETTERS_OF | letter & 3;
        }

        static int beginning(int code, int length) {
            return length << LENGTH_AT | (code & LETTERS_OF) >> 2 * (lengthOf(code) - length);
        }

        /** The k-th WORD, from 0 on and by ORDER, of those with that length. */
        static int numbered(int k, int length, int alphabet) {
            int letters = 0;
            int rest = k;
            for (int place = 0; place < length && alphabet > 0; place++) {
                letters |= rest % alphabet << 2 * place;
                rest /= alphabet;
            }
            return length << LENGTH_AT | letters;
        }
    }

    /** A row of bytes: the tape, and what was written latest. */
    private static final class Octets {
        private final int[] row;
        private int count;

        Octets(int most) {
            row = new int[Math.max(0, most)];
        }

        int at(int k) {
            return k >= 0 && k < count && k < row.length ? row[k] : NONE;
        }

        void cut(int n) {
            count = n;
        }

        void put(int octet) {
            if (count >= 0 && count < row.length) {
                row[count] = octet & 255;
                count++;
            }
        }

        void putFour(int four) {
            put(four >> 24);
            put(four >> 16);
            put(four >> 8);
            put(four);
        }

        void putNumber(int number) {
            if (number >= 100) {
                put('0' + number / 100 % 10);
            }
            if (number >= 10) {
                put('0' + number / 10 % 10);
            }
            put('0' + number % 10);
        }

        void putWord(int code) {
            int length = Word.lengthOf(code);
            for (int place = 0; place < length; place++) {
                put('a' + Word.letterOf(code, place));
            }
        }

        void turn() {
            for (int low = 0, high = count - 1; low >= 0 && low < high && high < row.length; low++, high--) {
                int held = row[low];
                row[low] = row[high];
                row[high] = held;
            }
        }

        int asWord(int alphabet) {
            if (count > LONGEST_WORD) {
                return NONE;
            }
            int code = 0;
            for (int k = 0; k < count; k++) {
                int letter = at(k) - 'a';
                if (letter < 0 || letter >= alphabet) {
                    return NONE;
                }
                code = Word.longer(code, letter);
            }
            return code;
        }
    }

    /** The EXAMPLES, by ORDER. */
    private static final class Sample {
        private final int[] code = new int[MOST_EXAMPLES];
        private final boolean[] in = new boolean[MOST_EXAMPLES];
        private int count;

        void clear() {
            count = 0;
        }

        boolean has(int k) {
            return k >= 0 && k < count && k < MOST_EXAMPLES;
        }

        int codeOf(int k) {
            return has(k) ? code[k] : NONE;
        }

        boolean isIn(int k) {
            return has(k) && in[k];
        }

        int countIn() {
            int many = 0;
            for (int k = 0; k < count; k++) {
                if (isIn(k)) {
                    many++;
                }
            }
            return many;
        }

        /** How many EXAMPLES are ahead of a WORD. */
        int placeOf(int word) {
            int place = 0;
            while (place < count && place < MOST_EXAMPLES && code[place] < word) {
                place++;
            }
            return place;
        }

        boolean holds(int word) {
            return codeOf(placeOf(word)) == word;
        }

        void insert(int place, int word, boolean isIn) {
            if (count >= MOST_EXAMPLES || place < 0 || place > count) {
                return;
            }
            for (int k = count; k > place; k--) {
                code[k] = code[k - 1];
                in[k] = in[k - 1];
            }
            code[place] = word;
            in[place] = isIn;
            count++;
        }

        void remove(int place) {
            if (!has(place)) {
                return;
            }
            count--;
            for (int k = place; k < count; k++) {
                code[k] = code[k + 1];
                in[k] = in[k + 1];
            }
        }
    }

    /** The NODES, by ORDER. */
    private static final class Tree {
        private final int[] code = new int[MOST_NODES];
        private final int[] mark = new int[MOST_NODES];
        private final int[] parent = new int[MOST_NODES];
        private final int[] child = new int[MOST_NODES * MOST_LETTERS];
        private int count;

        boolean has(int k) {
            return k >= 0 && k < count && k < MOST_NODES;
        }

        /** The NODES of all EXAMPLES but the left out one (NONE: of all). */
        void build(Sample sample, int leftOut) {
            count = 1;
            code[0] = 0;
            for (int k = 0; k < sample.count; k++) {
                if (k != leftOut) {
                    addWord(sample.codeOf(k));
                }
            }
            link(sample, leftOut);
        }

        void addWord(int word) {
            int length = Word.lengthOf(word);
            for (int n = 1; n <= length; n++) {
                addNode(Word.beginning(word, n));
            }
        }

        private void addNode(int word) {
            int place = placeOf(word);
            if (count >= MOST_NODES || place < count && code[place] == word) {
                return;
            }
            for (int k = count; k > place; k--) {
                code[k] = code[k - 1];
            }
            code[place] = word;
            count++;
        }

        /** How many NODES are ahead of a WORD, by halving. */
        private int placeOf(int word) {
            int low = 0;
            int high = Math.min(count, MOST_NODES);
            for (int turn = 0; turn < MOST_NODES && low < high; turn++) {
                int middle = low + high >> 1;
                if (code[middle] < word) {
                    low = middle + 1;
                } else {
                    high = middle;
                }
            }
            return low;
        }

        int nodeOf(int word) {
            int place = placeOf(word);
            return has(place) && code[place] == word ? place : NONE;
        }

        /** How many NODES more there would be with a WORD. */
        int lacking(int word) {
            int length = Word.lengthOf(word);
            int many = 0;
            for (int n = 1; n <= length; n++) {
                if (nodeOf(Word.beginning(word, n)) == NONE) {
                    many++;
                }
            }
            return many;
        }

        void link(Sample sample, int leftOut) {
            for (int k = 0; k < count && k < MOST_NODES; k++) {
                mark[k] = 0;
                parent[k] = NONE;
                for (int letter = 0; letter < MOST_LETTERS; letter++) {
                    child[k * MOST_LETTERS + letter] = NONE;
                }
            }
            for (int k = 1; k < count && k < MOST_NODES; k++) {
                int before = nodeOf(Word.beginning(code[k], Word.lengthOf(code[k]) - 1));
                if (before != NONE) {
                    parent[k] = before;
                    child[before * MOST_LETTERS + Word.lastOf(code[k])] = k;
                }
            }
            for (int k = 0; k < sample.count; k++) {
                int node = k == leftOut ? NONE : nodeOf(sample.codeOf(k));
                if (node != NONE) {
                    mark[node] = sample.isIn(k) ? MARK_IN : MARK_NOT;
                }
            }
        }
    }

    /**
     * The STATES. Each NODE leads up to the least one of its STATE, and that one holds the STATE's MARK, ARROWS and
     * colour. Every joining of two is noted with what it changed, so that the latest ones can be taken back.
     */
    private static final class Fold {
        private static final int MOST_WAITING = MOST_NODES * MOST_LETTERS + 1;
        private static final int WAS_MARK = 3;
        private static final int WAS_RED = 4;
        private static final int GOT_ARROW = 8;

        private final int[] up = new int[MOST_NODES];
        private final int[] mark = new int[MOST_NODES];
        private final boolean[] red = new boolean[MOST_NODES];
        private final int[] arrow = new int[MOST_NODES * MOST_LETTERS];
        private final int[] joined = new int[MOST_NODES];
        private final int[] change = new int[MOST_NODES];
        private final int[] waitingOne = new int[MOST_WAITING];
        private final int[] waitingOther = new int[MOST_WAITING];
        private final int[] number = new int[MOST_NODES];
        private int nodes;
        private int count;
        private int marked;
        private int joins;
        private int waiting;

        void begin(Tree tree) {
            nodes = Math.min(tree.count, MOST_NODES);
            count = nodes;
            marked = 0;
            joins = 0;
            for (int k = 0; k < nodes; k++) {
                up[k] = k;
                mark[k] = tree.mark[k];
                red[k] = k == 0;
                if (mark[k] != 0) {
                    marked++;
                }
            }
            System.arraycopy(tree.child, 0, arrow, 0, nodes * MOST_LETTERS);
        }

        boolean isName(int k) {
            return k >= 0 && k < nodes && up[k] == k;
        }

        boolean areUnlike(int i, int j) {
            return i != j && isName(i) && isName(j);
        }

        int nameOf(int node) {
            int k = node;
            for (int steps = 0; steps < MOST_NODES && k >= 0 && k < nodes && up[k] != k; steps++) {
                k = up[k];
            }
            return k;
        }

        boolean isRed(int name) {
            return isName(name) && red[name];
        }

        void redden(int name, boolean isRed) {
            if (isName(name)) {
                red[name] = isRed;
            }
        }

        /** The NAME of the STATE to which an ARROW goes, or NONE. */
        int follow(int name, int letter) {
            if (!isName(name) || letter < 0 || letter >= MOST_LETTERS) {
                return NONE;
            }
            return nameOf(arrow[name * MOST_LETTERS + letter]);
        }

        /** MERGES two STATES, unless that FAILS: then all is as it was. */
        boolean join(int i, int j) {
            if (i < 0 || i >= nodes || j < 0 || j >= nodes) {
                return false;
            }
            int earlier = joins;
            waitingOne[0] = i;
            waitingOther[0] = j;
            waiting = 1;
            for (int turn = 0; turn < MOST_WAITING && waiting > 0; turn++) {
                waiting--;
                int one = nameOf(waitingOne[waiting]);
                int other = nameOf(waitingOther[waiting]);
                if (one == other) {
                    continue;
                }
                if ((mark[one] | mark[other]) == (MARK_IN | MARK_NOT)) {
                    takeBack(earlier);
                    return false;
                }
                absorb(Math.min(one, other), Math.max(one, other));
            }
            return true;
        }

        /** The STATE named least takes in the other one; what now must become one, too, waits. */
        private void absorb(int least, int other) {
            if (joins < 0 || joins >= MOST_NODES) {
                return;
            }
            int was = mark[least] | (red[least] ? WAS_RED : 0);
            if (mark[least] == 0) {
                mark[least] = mark[other];
            } else if (mark[other] != 0) {
                marked--;
            }
            red[least] = red[least] || red[other];
            for (int letter = 0; letter < MOST_LETTERS; letter++) {
                int from = least * MOST_LETTERS + letter;
                int to = arrow[other * MOST_LETTERS + letter];
                if (to == NONE) {
                    continue;
                }
                if (arrow[from] == NONE) {
                    arrow[from] = to;
                    was |= GOT_ARROW << letter;
                } else if (waiting < MOST_WAITING) {
                    waitingOne[waiting] = arrow[from];
                    waitingOther[waiting] = to;
                    waiting++;
                }
            }
            up[other] = least;
            joined[joins] = other;
            change[joins] = was;
            joins++;
            count--;
        }

        /** Only so many joinings as there were earlier stay. */
        void takeBack(int earlier) {
            for (int k = Math.min(joins, MOST_NODES) - 1; k >= 0 && k >= earlier; k--) {
                int other = joined[k];
                int least = up[other];
                int was = change[k];
                mark[least] = was & WAS_MARK;
                red[least] = (was & WAS_RED) != 0;
                for (int letter = 0; letter < MOST_LETTERS; letter++) {
                    if ((was & GOT_ARROW << letter) != 0) {
                        arrow[least * MOST_LETTERS + letter] = NONE;
                    }
                }
                if (mark[least] != 0 && mark[other] != 0) {
                    marked++;
                }
                up[other] = other;
                count++;
                joins = k;
            }
        }

        /** The SCORE of a MERGE, which does not stay; NONE if it FAILS. */
        int worth(int how, int i, int j) {
            int earlier = joins;
            int countThen = count;
            int markedThen = marked;
            if (!join(i, j)) {
                return NONE;
            }
            int points = 0;
            if (how == EVIDENCE) {
                points = markedThen - marked;
            } else if (how == SIZE) {
                points = countThen - count;
            }
            takeBack(earlier);
            return points;
        }

        boolean accepts(int word) {
            int length = Word.lengthOf(word);
            int name = 0;
            for (int place = 0; place < length && name != NONE; place++) {
                name = follow(name, Word.letterOf(word, place));
            }
            return isName(name) && mark[name] == MARK_IN;
        }

        /** The STATES as a MACHINE, by NAMES. */
        void tell(Machine machine) {
            machine.clear();
            for (int k = 0; k < nodes; k++) {
                if (up[k] == k) {
                    number[k] = machine.count;
                    machine.add(mark[k]);
                }
            }
            for (int k = 0; k < nodes; k++) {
                for (int letter = 0; letter < MOST_LETTERS && up[k] == k; letter++) {
                    int to = follow(k, letter);
                    machine.link(number[k], letter, isName(to) ? number[to] : NONE);
                }
            }
        }
    }

    /** STEPS and DEEDS over the STATES. */
    private static final class Learner {
        private static final int NO_DEED = NONE - 1;

        private final Fold fold = new Fold();
        private final int[] reds = new int[MOST_NODES];
        private final int[] blues = new int[MOST_NODES];
        private final boolean[] behindRed = new boolean[MOST_NODES];
        private final int[] deedBlue = new int[MOST_DEEDS];
        private final int[] deedRed = new int[MOST_DEEDS];
        private final int[] deedScore = new int[MOST_DEEDS];
        private final int[] joinsAhead = new int[MOST_DEEDS];
        private int redCount;
        private int blueCount;
        private int deedCount;

        void begin(Tree tree) {
            fold.begin(tree);
            deedCount = 0;
        }

        /** Lists the RED and the BLUE STATES, by NAMES. */
        void paint() {
            redCount = 0;
            blueCount = 0;
            for (int k = 0; k < MOST_NODES; k++) {
                behindRed[k] = false;
            }
            for (int k = 0; k < fold.nodes; k++) {
                if (fold.isRed(k)) {
                    reds[redCount] = k;
                    redCount++;
                    seeBehind(k);
                }
            }
            for (int k = 0; k < fold.nodes; k++) {
                if (behindRed[k] && !fold.isRed(k)) {
                    blues[blueCount] = k;
                    blueCount++;
                }
            }
        }

        private void seeBehind(int name) {
            for (int letter = 0; letter < MOST_LETTERS; letter++) {
                int to = fold.follow(name, letter);
                if (to >= 0 && to < MOST_NODES) {
                    behindRed[to] = true;
                }
            }
        }

        /** Of a NODE's STATE: 1 RED, 2 BLUE, 0 neither. */
        int colourOf(int node) {
            int name = fold.nameOf(node);
            if (fold.isRed(name)) {
                return 1;
            }
            paint();
            return name >= 0 && name < MOST_NODES && behindRed[name] ? 2 : 0;
        }

        int learnFrom(Tree tree, int how) {
            begin(tree);
            paint();
            for (int steps = 0; steps < MOST_DEEDS && blueCount > 0; steps++) {
                doStep(how);
                paint();
            }
            return fold.count;
        }

        /** A STEP, with the colours as they were painted; there is a BLUE STATE. */
        void doStep(int how) {
            if (how == FIRST) {
                doFirst();
            } else {
                doBest(how);
            }
        }

        private void doFirst() {
            for (int r = 0; r < redCount; r++) {
                if (doMerge(blues[0], reds[r], 0)) {
                    return;
                }
            }
            doRedden(blues[0]);
        }

        private void doBest(int how) {
            int best = NONE;
            int bestBlue = NONE;
            int bestRed = NONE;
            for (int b = 0; b < blueCount; b++) {
                boolean fits = false;
                for (int r = 0; r < redCount; r++) {
                    int points = fold.worth(how, blues[b], reds[r]);
                    fits = fits || points != NONE;
                    if (points > best) {
                        best = points;
                        bestBlue = blues[b];
                        bestRed = reds[r];
                    }
                }
                if (!fits) {
                    doRedden(blues[b]);
                    return;
                }
            }
            doMerge(bestBlue, bestRed, best);
        }

        boolean doMerge(int blue, int red, int points) {
            int ahead = fold.joins;
            if (deedCount >= MOST_DEEDS || !fold.areUnlike(blue, red) || !fold.join(blue, red)) {
                return false;
            }
            note(blue, red, points, ahead);
            return true;
        }

        private void doRedden(int blue) {
            if (deedCount < MOST_DEEDS) {
                fold.redden(blue, true);
                note(blue, NONE, 0, fold.joins);
            }
        }

        private void note(int blue, int red, int points, int ahead) {
            deedBlue[deedCount] = blue;
            deedRed[deedCount] = red;
            deedScore[deedCount] = points;
            joinsAhead[deedCount] = ahead;
            deedCount++;
        }

        boolean takeBackDeed() {
            if (deedCount <= 0) {
                return false;
            }
            deedCount--;
            if (deedRed[deedCount] == NONE) {
                fold.redden(deedBlue[deedCount], false);
            } else {
                fold.takeBack(joinsAhead[deedCount]);
            }
            return true;
        }

        int deedOf(int k, int what) {
            if (k < 0 || k >= deedCount) {
                return NO_DEED;
            }
            switch (what) {
                case 0: return deedRed[k] == NONE ? 0 : 1;
                case 1: return deedBlue[k];
                case 2: return deedRed[k];
                case 3: return deedScore[k];
                default: return NO_DEED;
            }
        }
    }

    /** STATES with MARKS and ARROWS; without STATES it stands for no MACHINE. */
    private static final class Machine {
        private final int[] mark;
        private final int[] arrow;
        private int count;

        Machine(int most) {
            mark = new int[Math.max(0, most)];
            arrow = new int[Math.max(0, most) * MOST_LETTERS];
        }

        void clear() {
            count = 0;
        }

        boolean has(int s) {
            return s >= 0 && s < count && s < mark.length;
        }

        void copy(Machine other) {
            count = Math.min(other.count, mark.length);
            System.arraycopy(other.mark, 0, mark, 0, count);
            System.arraycopy(other.arrow, 0, arrow, 0, count * MOST_LETTERS);
        }

        /** A STATE more, without ARROWS. */
        void add(int itsMark) {
            if (count < 0 || count >= mark.length) {
                return;
            }
            mark[count] = itsMark;
            for (int letter = 0; letter < MOST_LETTERS; letter++) {
                arrow[count * MOST_LETTERS + letter] = NONE;
            }
            count++;
        }

        void link(int s, int letter, int to) {
            if (has(s) && letter >= 0 && letter < MOST_LETTERS) {
                arrow[s * MOST_LETTERS + letter] = to;
            }
        }

        /** The STATE to which an ARROW goes, or NONE. */
        int follow(int s, int letter) {
            if (!has(s) || letter < 0 || letter >= MOST_LETTERS) {
                return NONE;
            }
            int to = arrow[s * MOST_LETTERS + letter];
            return has(to) ? to : NONE;
        }

        boolean isIn(int s) {
            return has(s) && mark[s] == MARK_IN;
        }

        boolean accepts(int word) {
            int length = Word.lengthOf(word);
            int s = 0;
            for (int place = 0; place < length && s != NONE; place++) {
                s = follow(s, Word.letterOf(word, place));
            }
            return isIn(s);
        }

        void write(Octets out, int alphabet) {
            for (int s = 0; s < count && s < mark.length; s++) {
                out.put(signOf(mark[s]));
                for (int letter = 0; letter < alphabet; letter++) {
                    int to = follow(s, letter);
                    if (to != NONE) {
                        out.put('a' + letter);
                        out.putNumber(to);
                    }
                }
                out.put(';');
            }
        }

        private static int signOf(int itsMark) {
            if (itsMark == MARK_IN) {
                return '+';
            }
            return itsMark == MARK_NOT ? '-' : '?';
        }
    }

    /** THE LEAST: NODES are put to STATES by ORDER, and taken away again where it does not go on. */
    private static final class Search {
        /** Each turn is a TRY or the way back over a NODE put by one. */
        private static final int MOST_TURNS = 2 * MOST_TRIES + 2;

        private final int[] put = new int[MOST_NODES];
        private final int[] next = new int[MOST_NODES];
        private final int[] last = new int[MOST_NODES];
        private final boolean[] gaveMark = new boolean[MOST_NODES];
        private final boolean[] gaveArrow = new boolean[MOST_NODES];
        private final boolean[] gaveState = new boolean[MOST_NODES];
        private final int[] mark = new int[MOST_TRIED];
        private final int[] arrow = new int[MOST_TRIED * MOST_LETTERS];
        private int used;
        private int tryCount;

        /** How many STATES THE LEAST has; OTHER, TOO_MUCH as least() tells. */
        int find(Tree tree) {
            tryCount = 0;
            for (int most = 1; most <= MOST_TRIED; most++) {
                int found = findWith(tree, most);
                if (found != OTHER) {
                    return found;
                }
            }
            return OTHER;
        }

        private int findWith(Tree tree, int most) {
            int nodes = Math.min(tree.count, MOST_NODES);
            forget();
            enter(tree, 0, most);
            int node = 0;
            for (int turn = 0; turn < MOST_TURNS && node < nodes; turn++) {
                if (next[node] > last[node]) {
                    node--;
                    if (node < 0) {
                        return OTHER;
                    }
                    takeAway(tree, node);
                } else if (tryCount >= MOST_TRIES) {
                    return TOO_MUCH;
                } else if (tryNext(tree, node)) {
                    node++;
                    enter(tree, node, most);
                }
            }
            return node >= nodes ? used : TOO_MUCH;
        }

        private void forget() {
            used = 0;
            for (int s = 0; s < MOST_TRIED; s++) {
                mark[s] = 0;
            }
            for (int k = 0; k < MOST_TRIED * MOST_LETTERS; k++) {
                arrow[k] = NONE;
            }
        }

        /** Which STATES a NODE is to be tried with. */
        private void enter(Tree tree, int node, int most) {
            if (!tree.has(node)) {
                return;
            }
            int way = arrowTo(tree, node);
            int forced = way == NONE ? NONE : arrow[way];
            next[node] = forced == NONE ? 0 : forced;
            last[node] = forced == NONE ? Math.min(used, most - 1) : forced;
        }

        /** Where the ARROW is held that leads to a NODE; NONE for NODE 0. */
        private int arrowTo(Tree tree, int node) {
            int before = tree.parent[node];
            return before == NONE ? NONE : put[before] * MOST_LETTERS + Word.lastOf(tree.code[node]);
        }

        /** A TRY: whether the NODE could be put. */
        private boolean tryNext(Tree tree, int node) {
            tryCount++;
            int s = next[node];
            next[node]++;
            if (s < 0 || s >= MOST_TRIED || (mark[s] | tree.mark[node]) == (MARK_IN | MARK_NOT)) {
                return false;
            }
            put[node] = s;
            gaveState[node] = s == used;
            if (gaveState[node]) {
                used++;
            }
            gaveMark[node] = mark[s] == 0 && tree.mark[node] != 0;
            if (gaveMark[node]) {
                mark[s] = tree.mark[node];
            }
            int way = arrowTo(tree, node);
            gaveArrow[node] = way != NONE && arrow[way] == NONE;
            if (gaveArrow[node]) {
                arrow[way] = s;
            }
            return true;
        }

        private void takeAway(Tree tree, int node) {
            if (gaveArrow[node]) {
                arrow[arrowTo(tree, node)] = NONE;
            }
            if (gaveMark[node]) {
                mark[put[node]] = 0;
            }
            if (gaveState[node]) {
                used--;
            }
        }

        void tell(Machine machine) {
            machine.clear();
            for (int s = 0; s < used && s < MOST_TRIED; s++) {
                machine.add(mark[s]);
                for (int letter = 0; letter < MOST_LETTERS; letter++) {
                    machine.link(s, letter, arrow[s * MOST_LETTERS + letter]);
                }
            }
        }
    }

    /** Reads a TEXT, byte by byte. */
    private static final class Reader {
        private final Machine told = new Machine(MOST_TOLD);
        private final int[] digitAt = new int[MOST_TOLD * MOST_LETTERS];
        private int place;

        /** The FAULT's place, or NONE: then the MACHINE is told. */
        int read(Octets in, int alphabet) {
            told.clear();
            place = 0;
            for (int s = 0; s < MOST_TOLD && (s == 0 || place < in.count); s++) {
                if (!readState(in, alphabet)) {
                    return place;
                }
            }
            return place < in.count ? place : lostDigit(alphabet);
        }

        private boolean readState(Octets in, int alphabet) {
            int mark = markOf(in.at(place));
            if (mark == NONE) {
                return false;
            }
            place++;
            told.add(mark);
            for (int letter = 0; letter < alphabet; letter++) {
                if (in.at(place) == 'a' + letter) {
                    place++;
                    if (!readNumber(in, told.count - 1, letter)) {
                        return false;
                    }
                }
            }
            if (in.at(place) != ';') {
                return false;
            }
            place++;
            return true;
        }

        private boolean readNumber(Octets in, int s, int letter) {
            int first = digitOf(in.at(place));
            int where = s * MOST_LETTERS + letter;
            if (first == NONE || where < 0 || where >= digitAt.length) {
                return false;
            }
            digitAt[where] = place;
            place++;
            int second = first == 0 ? NONE : digitOf(in.at(place));
            if (second != NONE) {
                place++;
            }
            told.link(s, letter, second == NONE ? first : 10 * first + second);
            return true;
        }

        /** The place of the first number that is none of a STATE told, or NONE. */
        private int lostDigit(int alphabet) {
            for (int s = 0; s < told.count && s < MOST_TOLD; s++) {
                for (int letter = 0; letter < alphabet && letter < MOST_LETTERS; letter++) {
                    int where = s * MOST_LETTERS + letter;
                    if (told.arrow[where] >= told.count) {
                        return digitAt[where];
                    }
                }
            }
            return NONE;
        }

        private static int markOf(int octet) {
            switch (octet) {
                case '?': return 0;
                case '+': return MARK_IN;
                case '-': return MARK_NOT;
                default: return NONE;
            }
        }

        private static int digitOf(int octet) {
            return octet >= '0' && octet <= '9' ? octet - '0' : NONE;
        }
    }

    /** Measures what one MACHINE takes. */
    private static final class Meter {
        private final int[] ways = new int[(LONGEST_WORD + 1) * MOST_STATES];
        private final boolean[] isReached = new boolean[MOST_STATES];
        private final boolean[] isUseful = new boolean[MOST_STATES];
        private final int[] row = new int[MOST_STATES];
        private final boolean[] isHere = new boolean[MOST_STATES];
        private final boolean[] isNext = new boolean[MOST_STATES];

        /** How many WORDS of 0 .. longest LETTERS lead from each STATE to one that is IN. */
        void countWays(Machine one, int alphabet, int longest) {
            for (int s = 0; s < one.count && s < MOST_STATES; s++) {
                ways[s] = one.isIn(s) ? 1 : 0;
            }
            for (int n = 1; n <= longest && n <= LONGEST_WORD; n++) {
                for (int s = 0; s < one.count && s < MOST_STATES; s++) {
                    int many = 0;
                    for (int letter = 0; letter < alphabet; letter++) {
                        many += waysOf(one.follow(s, letter), n - 1);
                    }
                    ways[n * MOST_STATES + s] = many;
                }
            }
        }

        int waysOf(int s, int length) {
            if (s < 0 || s >= MOST_STATES || length < 0 || length > LONGEST_WORD) {
                return 0;
            }
            return ways[length * MOST_STATES + s];
        }

        /** The k-th WORD that is taken, or NONE. */
        int wordTaken(Machine one, int alphabet, int k) {
            countWays(one, alphabet, LONGEST_WORD);
            int rest = k;
            for (int length = 0; length <= LONGEST_WORD; length++) {
                if (rest < waysOf(0, length)) {
                    return wordOf(one, alphabet, length, rest);
                }
                rest -= waysOf(0, length);
            }
            return NONE;
        }

        /** The k-th WORD of that length that is taken, which there is. */
        private int wordOf(Machine one, int alphabet, int length, int k) {
            int code = 0;
            int s = 0;
            int rest = k;
            for (int left = length - 1; left >= 0; left--) {
                int letter = 0;
                while (letter < alphabet - 1 && rest >= waysOf(one.follow(s, letter), left)) {
                    rest -= waysOf(one.follow(s, letter), left);
                    letter++;
                }
                code = Word.longer(code, letter);
                s = one.follow(s, letter);
            }
            return code;
        }

        /** How many STATES are useful; which ones, is noted. */
        int findUseful(Machine one, int alphabet) {
            int reached = reach(one, alphabet);
            int many = 0;
            for (int s = 0; s < MOST_STATES; s++) {
                isUseful[s] = false;
            }
            boolean isMore = true;
            for (int turn = 0; turn <= MOST_STATES && isMore; turn++) {
                isMore = false;
                for (int k = reached - 1; k >= 0; k--) {
                    if (!isUseful[row[k]] && leadsOn(one, alphabet, row[k])) {
                        isUseful[row[k]] = true;
                        isMore = true;
                        many++;
                    }
                }
            }
            return many;
        }

        private boolean leadsOn(Machine one, int alphabet, int s) {
            if (one.isIn(s)) {
                return true;
            }
            for (int letter = 0; letter < alphabet; letter++) {
                int to = one.follow(s, letter);
                if (one.has(to) && isUseful[to]) {
                    return true;
                }
            }
            return false;
        }

        /** Lists the STATES that can be come to: how many. */
        private int reach(Machine one, int alphabet) {
            for (int s = 0; s < MOST_STATES; s++) {
                isReached[s] = false;
            }
            isReached[0] = true;
            row[0] = 0;
            int many = 1;
            for (int k = 0; k < many && k < MOST_STATES; k++) {
                for (int letter = 0; letter < alphabet; letter++) {
                    int to = one.follow(row[k], letter);
                    if (one.has(to) && !isReached[to] && many < MOST_STATES) {
                        isReached[to] = true;
                        row[many] = to;
                        many++;
                    }
                }
            }
            return many;
        }

        /**
         * Goes from the first STATE over useful ones, a LETTER at a time: whoever goes as far as there are such has
         * come to one of them twice.
         */
        int longestTaken(Machine one, int alphabet) {
            int many = findUseful(one, alphabet);
            if (many == 0) {
                return OTHER;
            }
            for (int s = 0; s < MOST_STATES; s++) {
                isHere[s] = s == 0;
            }
            for (int length = 0; length < many && length < MOST_STATES; length++) {
                if (!goOn(one, alphabet)) {
                    return length;
                }
            }
            return TOO_MUCH;
        }

        /** Whether there are useful STATES a LETTER behind those that are here. */
        private boolean goOn(Machine one, int alphabet) {
            for (int s = 0; s < MOST_STATES; s++) {
                isNext[s] = false;
            }
            boolean isAny = false;
            for (int s = 0; s < one.count && s < MOST_STATES; s++) {
                for (int letter = 0; letter < alphabet && isHere[s]; letter++) {
                    int to = one.follow(s, letter);
                    if (one.has(to) && isUseful[to]) {
                        isNext[to] = true;
                        isAny = true;
                    }
                }
            }
            for (int s = 0; s < MOST_STATES; s++) {
                isHere[s] = isNext[s];
            }
            return isAny;
        }
    }

    /** Sets two MACHINES against each other, or one against itself. */
    private static final class Mill {
        private static final int IN_BOTH = 0;
        private static final int IN_ONE = 1;
        private static final int IN_FIRST_ALONE = 2;

        /** STATES and NONE. */
        private static final int WIDE = MOST_STATES + 1;
        /** As many as there are of both MACHINES: findApart() makes two of them one with each pair that it notes. */
        private static final int MOST_PAIRS = 2 * WIDE;

        private final Machine made = new Machine(MOST_STATES);
        private final int[] first = new int[MOST_PAIRS];
        private final int[] second = new int[MOST_PAIRS];
        private final int[] way = new int[MOST_PAIRS];
        private final int[] earlier = new int[MOST_PAIRS];
        private final int[] latest = new int[WIDE];
        private final int[] lead = new int[2 * WIDE];
        private final int[] kind = new int[MOST_STATES];
        private final int[] newKind = new int[MOST_STATES];
        private int pairs;
        private int kinds;

        private void forgetPairs() {
            pairs = 0;
            for (int k = 0; k < WIDE; k++) {
                latest[k] = NONE;
            }
        }

        /**
         * Pairs of numbers (or NONE) are numbered as they come: the number of this one, a new one if it is not there.
         * Those with the same first part make a chain, each with a lower number than the one before.
         */
        private int numberOf(int one, int other) {
            if (one < NONE || one >= MOST_STATES) {
                return NONE;
            }
            int k = latest[one + 1];
            for (int steps = 0; steps < MOST_PAIRS && k >= 0 && k < pairs; steps++) {
                if (second[k] == other) {
                    return k;
                }
                k = earlier[k];
            }
            int number = note(one, other, 0);
            if (number != NONE) {
                earlier[number] = latest[one + 1];
                latest[one + 1] = number;
            }
            return number;
        }

        private int note(int one, int other, int itsWay) {
            if (pairs < 0 || pairs >= MOST_PAIRS) {
                return NONE;
            }
            first[pairs] = one;
            second[pairs] = other;
            way[pairs] = itsWay;
            pairs++;
            return pairs - 1;
        }

        /** Puts two MACHINES together, with all ARROWS; false if there would be more STATES than that. */
        boolean putTogether(Machine one, Machine other, int how, int alphabet, int most) {
            made.clear();
            forgetPairs();
            numberOf(0, 0);
            for (int k = 0; k < pairs && k < MOST_STATES; k++) {
                made.add(isIn(one.isIn(first[k]), other.isIn(second[k]), how) ? MARK_IN : MARK_NOT);
                for (int letter = 0; letter < alphabet; letter++) {
                    made.link(k, letter, numberOf(one.follow(first[k], letter), other.follow(second[k], letter)));
                }
                if (pairs > most) {
                    return false;
                }
            }
            return true;
        }

        private static boolean isIn(boolean isInOne, boolean isInOther, int how) {
            if (how == IN_BOTH) {
                return isInOne && isInOther;
            }
            return how == IN_ONE ? isInOne || isInOther : isInOne && !isInOther;
        }

        /**
         * The first pair of which one alone is IN, by ORDER of the WORDS that lead there; NONE if there is none. STATES
         * of a pair are held to be one from then on, and a pair of STATES that are one already is passed over: what
         * tells such a pair apart tells an earlier pair apart, too.
         */
        int findApart(Machine one, Machine other, int alphabet) {
            pairs = 0;
            for (int k = 0; k < 2 * WIDE; k++) {
                lead[k] = k;
            }
            unite(0, 0);
            note(0, 0, 0);
            if (one.isIn(0) != other.isIn(0)) {
                return 0;
            }
            for (int k = 0; k < pairs && k < MOST_PAIRS; k++) {
                for (int letter = 0; letter < alphabet; letter++) {
                    int s = one.follow(first[k], letter);
                    int t = other.follow(second[k], letter);
                    if (unite(s, t)) {
                        int number = note(s, t, k * MOST_LETTERS + letter);
                        if (one.isIn(s) != other.isIn(t)) {
                            return number;
                        }
                    }
                }
            }
            return NONE;
        }

        /** Whether the STATES (or NONE) of the one and the other MACHINE were not one yet. */
        private boolean unite(int s, int t) {
            int one = leadOf(s + 1);
            int other = leadOf(t + 1 + WIDE);
            lead[one] = other;
            return one != other;
        }

        private int leadOf(int start) {
            int k = start;
            for (int steps = 0; steps < 2 * WIDE && lead[k] != k; steps++) {
                lead[k] = lead[lead[k]];
                k = lead[k];
            }
            return k;
        }

        /** Writes the WORD by which a pair was come to first. */
        void writeWay(int found, Octets out) {
            out.cut(0);
            int k = found;
            for (int steps = 0; steps < MOST_PAIRS && k > 0 && k < MOST_PAIRS; steps++) {
                out.put('a' + way[k] % MOST_LETTERS);
                k = way[k] / MOST_LETTERS;
            }
            out.turn();
        }

        /**
         * How many kinds of STATES a MACHINE with all ARROWS needs. Pairing a MACHINE with itself gives it all ARROWS
         * and leaves out what can't be come to; kinds are numbered by their first STATE, and so by ORDER.
         */
        int shrink(Machine one, int alphabet) {
            putTogether(one, one, IN_BOTH, alphabet, MOST_STATES);
            splitByMark();
            int kindsThen = 0;
            for (int turn = 0; turn < MOST_STATES && kindsThen < kinds; turn++) {
                kindsThen = kinds;
                for (int letter = 0; letter < alphabet; letter++) {
                    splitByLetter(letter);
                }
            }
            return kinds;
        }

        private void splitByMark() {
            forgetPairs();
            for (int s = 0; s < made.count && s < MOST_STATES; s++) {
                newKind[s] = numberOf(0, made.mark[s]);
            }
            takeKinds();
        }

        private void splitByLetter(int letter) {
            forgetPairs();
            for (int s = 0; s < made.count && s < MOST_STATES; s++) {
                newKind[s] = numberOf(kind[s], kindOf(made.follow(s, letter)));
            }
            takeKinds();
        }

        private int kindOf(int s) {
            return made.has(s) ? kind[s] : NONE;
        }

        private void takeKinds() {
            System.arraycopy(newKind, 0, kind, 0, MOST_STATES);
            kinds = pairs;
        }

        /** The MACHINE that was shrunk latest, a STATE for each kind. */
        void tellShrunk(Machine machine, int alphabet) {
            machine.clear();
            for (int s = 0; s < made.count && s < MOST_STATES; s++) {
                if (kind[s] == machine.count) {
                    machine.add(made.mark[s]);
                    for (int letter = 0; letter < alphabet; letter++) {
                        machine.link(kind[s], letter, kindOf(made.follow(s, letter)));
                    }
                }
            }
        }
    }
}
