/** The bounds that promises 19 to 36 name, sentence by sentence: texts, machines, what they take, what is written. */
public final class BoundsOfMachines {
    private static final Bounds t = new Bounds();
    private static final String EVEN = "+a1b0;-a0b1;";
    /** No MACHINE has these numbers. */
    private static final int[] NO_MACHINE = Bounds.beyond(0, 3);

    public static void main(String[] args) {
        target();
        targetFault();
        fault();
        keep();
        keepOthers();
        state();
        states();
        takes();
        takesOthers();
        words();
        apart();
        apartByOrder();
        apartFar();
        apartNone();
        small();
        tight();
        taken();
        takenOthers();
        wrong();
        both();
        bothTooMany();
        bothOthers();
        useful();
        longest();
        text();
        octet();
        teach();
        teachTillRefused();
        teachOthers();
        t.end();
    }

    private static Folder with(String text) {
        return with(2, text);
    }

    private static Folder with(int letters, String text) {
        Folder x = new Folder();
        x.letters(letters);
        t.due("target " + text, x.target(text) > 0, true);
        return x;
    }

    /** A call with the number of a MACHINE answers so and changes nothing where there is no such MACHINE. */
    private static void noMachine(String name, Asked asked, int want) {
        for (int m : NO_MACHINE) {
            t.changesNothing(name + " of " + m, Bounds::full, x -> asked.of(x, m), want);
        }
        for (int m = 1; m <= 3; m++) {
            int one = m;
            t.changesNothing(name + " of " + m + " at first", Folder::new, x -> asked.of(x, one), want);
            t.changesNothing(name + " of " + m + " behind letters", () -> {
                Folder x = Bounds.full();
                x.letters(2);
                return x;
            }, x -> asked.of(x, one), want);
        }
    }

    private interface Asked {
        int of(Folder x, int m);
    }

    private static void target() {
        t.of(19, "The tape (empty then) is THE TARGET's TEXT: how many STATES.");
        for (int n : new int[] {1, 2, 39, 40}) {
            Folder x = new Folder();
            t.due("target of " + n, x.target(Bounds.lone(n)), n);
            t.due("states(2)", x.states(2), n);
            t.due("the tape is empty", x.is(8), 0);
            t.due("fault", x.fault(), -1);
        }
        Folder x = Bounds.full();
        t.due("another one", x.target("+;"), 1);
        t.due("in its place", x.shown(2), "+;");
        t.due("deeds stay", x.is(7), 2);
        t.due("what is KEPT stays", x.states(3), 6);
        t.due("the least stays", x.states(1), 2);
        t.due("with a fault the tape is empty, too", tapeBehind("+;x"), 0);
    }

    private static int tapeBehind(String text) {
        Folder x = new Folder();
        x.target(text);
        return x.is(8);
    }

    private static void targetFault() {
        t.of(19, "NONE: a FAULT (it stays).");
        Folder x = with(EVEN);
        for (String text : new String[] {"", "+", "x", "+a2;-;", "+a0;-a1;x", Bounds.lone(41), "+c0;", "+a00;"}) {
            t.due("target " + text, x.target(text), -1);
            t.due("it stays", x.shown(2), EVEN);
        }
        Folder none = new Folder();
        t.due("target", none.target("+a1;"), -1);
        t.due("there is none yet", none.states(2), -1);
        Folder tape = new Folder();
        for (int n = 20; n <= 800; n += 20) {
            tape.feed(0x2B3B2B3B, 0x2B3B2B3B, 0x2B3B2B3B, 0x2B3B2B3B, 0x2B3B2B3B);
        }
        t.due("target of 400 states", tape.target(), -1);
        t.due("fault", tape.fault(), 80);
    }

    private static void fault() {
        t.of(20, "The FAULT's place of the latest target();");
        Folder x = new Folder();
        String[] texts = {"x", "+x", "+a", "+a0;x", Bounds.lone(41), "+a1;", ""};
        int[] due = {0, 1, 2, 4, 80, 2, 0};
        for (int k = 0; k < texts.length; k++) {
            x.target(texts[k]);
            t.due("fault of " + texts[k], x.fault(), due[k]);
            t.due("asked again", x.fault(), due[k]);
        }
        x.target("+a");
        x.in("c");
        x.takes(0, "x");
        x.letters(3);
        t.due("of the latest one", x.fault(), 2);
        t.of(20, "NONE, if that was well, ahead of any.");
        t.due("ahead of any", new Folder().fault(), -1);
        x.target("+;");
        t.due("well", x.fault(), -1);
        x.target("+");
        t.due("a fault", x.fault(), 1);
        x.target("-;");
        t.due("well again", x.fault(), -1);
    }

    private static void keep() {
        t.of(21, "MACHINE m (0 .. 2) is KEPT: how many STATES.");
        Folder x = Bounds.full();
        int[] due = {3, 2, 2};
        for (int m = 0; m <= 2; m++) {
            t.due("keep(" + m + ")", x.keep(m), due[m]);
            t.due("keep(" + m + ")", x.shown(3), x.shown(m));
        }
        t.due("keep(0)", x.keep(0), 3);
        String then = x.shown(0);
        x.undo();
        x.undo();
        t.due("it is as it was then", x.shown(3), then);
        Folder most = Bounds.withNodes(120);
        t.due("keep(0) of 120", most.keep(0), 120);
        t.due("the last one", most.state(3, 119, 0), 1);
        Folder forty = with(Bounds.lone(40));
        t.due("keep(2) of 40", forty.keep(2), 40);
    }

    private static void keepOthers() {
        t.of(21, "NONE for others, if there is none.");
        for (int m : Bounds.beyond(0, 2)) {
            t.changesNothing("keep(" + m + ")", Bounds::full, x -> x.keep(m), -1);
        }
        for (int m = 1; m <= 3; m++) {
            int one = m;
            t.changesNothing("keep(" + m + ") of none", Folder::new, x -> x.keep(one), -1);
            t.changesNothing("keep(" + m + ") of none, with one that is KEPT", () -> {
                Folder x = Bounds.told("+ab");
                x.keep(0);
                return x;
            }, x -> x.keep(one), -1);
        }
    }

    private static void state() {
        t.of(22, "Of MACHINE m: STATE s: 0 its MARK, 1 + l its ARROW by LETTER l (NONE: none).");
        for (int n = 1; n <= 4; n++) {
            Folder x = with(n, "?;+" + (char) ('a' + n - 1) + "1;-" + "a0" + ";");
            int[] marks = {0, 1, 2};
            for (int s = 0; s <= 2; s++) {
                t.due("state(2, " + s + ", 0)", x.state(2, s, 0), marks[s]);
            }
            t.due("the last letter", x.state(2, 1, n), 1);
            t.due("the first letter", x.state(2, 2, 1), 0);
            t.due("no arrow", x.state(2, 0, n), -1);
            t.due("no such letter", x.state(2, 1, n + 1), -2);
        }
        Folder most = Bounds.ring200(1);
        t.due("state(3, 199, 0)", most.state(3, 199, 0), 2);
        t.due("state(3, 199, 1)", most.state(3, 199, 1), 0);
        t.due("state(3, 198, 1)", most.state(3, 198, 1), 199);
        Folder tree = Bounds.withNodes(120);
        t.due("state(0, 107, 2)", tree.state(0, 107, 2), 119);
        t.due("state(0, 119, 4)", tree.state(0, 119, 4), -1);
        t.of(22, "-2 for others.");
        noMachine("state", (x, m) -> x.state(m, 0, 0), -2);
        t.due("state(3, 200, 0)", most.state(3, 200, 0), -2);
        t.due("state(0, 120, 0)", tree.state(0, 120, 0), -2);
        t.due("state(0, 0, 5)", tree.state(0, 0, 5), -2);
        int[] many = {3, 2, 2, 6};
        for (int m = 0; m <= 3; m++) {
            int one = m;
            for (int s : Bounds.beyond(0, many[m] - 1)) {
                t.changesNothing("state(" + m + ", " + s + ", 0)", Bounds::full, x -> x.state(one, s, 0), -2);
            }
            for (int what : Bounds.beyond(0, 2)) {
                t.changesNothing("state(" + m + ", 0, " + what + ")", Bounds::full, x -> x.state(one, 0, what), -2);
            }
        }
    }

    private static void states() {
        t.of(23, "How many STATES MACHINE m has.");
        Folder x = Bounds.full();
        int[] due = {3, 2, 2, 6};
        for (int m = 0; m <= 3; m++) {
            t.due("states(" + m + ")", x.states(m), due[m]);
        }
        t.due("states(0) at first", new Folder().states(0), 1);
        t.due("states(0) of 120", Bounds.withNodes(120).states(0), 120);
        t.due("states(2) of 40", with(Bounds.lone(40)).states(2), 40);
        t.due("states(3) of 200", Bounds.ring200(1).states(3), 200);
        t.of(23, "NONE: there is none.");
        noMachine("states", Folder::states, -1);
    }

    private static void takes() {
        t.of(24, "The tape (empty then) is a WORD: whether MACHINE m takes it: 1, 0.");
        Folder x = with("+a1b0;-a0;");
        String[] words = {"", "a", "aa", "ab", "bbbbbbbbbb", "aaaaaaaaaa", "aaaaaaaaab", "bbbbbbbbba"};
        int[] due = {1, 0, 1, 0, 1, 1, 0, 0};
        for (int k = 0; k < words.length; k++) {
            t.due("takes " + words[k], x.takes(2, words[k]), due[k]);
            t.due("the tape is empty", x.is(8), 0);
        }
        t.due("the empty tape", x.takes(2), 1);
        Folder all = Bounds.full();
        int[] empty = {1, 1, 0, 1};
        for (int m = 0; m <= 3; m++) {
            int one = m;
            t.due("takes(" + m + ")", all.takes(m, ""), empty[m]);
            t.changesNothing("takes(" + m + ")", Bounds::full, f -> f.takes(one, ""), empty[m]);
        }
    }

    private static void takesOthers() {
        t.of(24, "NONE: there is no such MACHINE (ahead of:) -2: no WORD.");
        noMachine("takes of a word", (x, m) -> x.takes(m, "ab"), -1);
        noMachine("takes of none", (x, m) -> x.takes(m, "c"), -1);
        noMachine("takes of eleven letters", (x, m) -> x.takes(m, "aaaaaaaaaaa"), -1);
        for (int m = 0; m <= 3; m++) {
            int one = m;
            for (String none : new String[] {"c", "aaaaaaaaaaa", "a\0", "`", "A", "\u00e1"}) {
                t.changesNothing("takes(" + m + ") of " + none, Bounds::full, x -> x.takes(one, none), -2);
            }
        }
        Folder x = Bounds.full();
        x.takes(4, "ab");
        t.due("the tape is empty with NONE", x.is(8), 0);
        x.takes(2, "abc");
        t.due("the tape is empty with -2", x.is(8), 0);
    }

    private static void words() {
        t.of(25, "How many WORDS of n (0 .. 10) LETTERS MACHINE m takes.");
        for (int letters = 1; letters <= 4; letters++) {
            Folder x = with(letters, Bounds.lasso(0, 1, letters));
            int all = 1;
            for (int n = 0; n <= 10; n++) {
                t.due("words(2, " + n + ") of " + letters + " letters", x.words(2, n), all);
                all *= letters;
            }
        }
        Folder none = with("-a0b0;");
        Folder ten = with(1, Bounds.chain(11));
        Folder eleven = with(1, Bounds.chain(12));
        for (int n = 0; n <= 10; n++) {
            t.due("none of " + n, none.words(2, n), 0);
            t.due("one of ten letters", ten.words(2, n), n == 10 ? 1 : 0);
            t.due("one of eleven letters", eleven.words(2, n), 0);
        }
        Folder most = Bounds.ring200(4);
        t.due("the empty word", most.words(3, 0), 1);
        t.due("none of ten", most.words(3, 10), 0);
        t.due("none of eight", most.words(3, 8), 0);
        t.of(25, "NONE for others.");
        noMachine("words", (x, m) -> x.words(m, 0), -1);
        for (int m = 0; m <= 3; m++) {
            int one = m;
            for (int n : Bounds.beyond(0, 10)) {
                t.changesNothing("words(" + m + ", " + n + ")", Bounds::full, x -> x.words(one, n), -1);
            }
        }
    }

    /** What is KEPT takes nothing but the WORD of a .. with one LETTER fewer than STATES, THE TARGET nothing. */
    private static Folder lastOfChain(int states) {
        Folder x = with(1, Bounds.chain(states));
        x.keep(2);
        x.target("-;");
        return x;
    }

    private static void apart() {
        t.of(26, "The first WORD by ORDER, be it longer than 10 LETTERS, that one of MACHINES m, o takes and the other one doesn't is "
            + "written: how many bytes.");
        for (int n : new int[] {0, 1, 9, 10, 11, 39}) {
            Folder x = lastOfChain(n + 1);
            t.due("a word of " + n, x.apart(2, 3), n);
            t.due("a word of " + n, x.written(), "a".repeat(n));
            t.due("told the other way round", x.apart(3, 2), n);
        }
        // the ring of 200 takes the words of 0, 200, .. letters; a lasso takes the empty one alone
        Folder ring = Bounds.ring200(1);
        ring.target("+a1;-a1;");
        t.due("200 letters", ring.apart(2, 3), 200);
        t.due("the last one", ring.octet(199), 'a');
        t.due("no more", ring.octet(200), -1);
        // a tail of 40 and that ring differ first at 200, too; the tree takes nothing
        ring.target(Bounds.lasso(39, 1, 1));
        t.due("200 letters", ring.apart(3, 2), 200);
        t.due("the empty word", ring.apart(0, 3), 0);
        t.due("nothing is left of what was written", ring.octet(0), -1);
    }

    private static void apartByOrder() {
        t.of(26, "The first WORD by ORDER, be it longer than 10 LETTERS, that one of MACHINES m, o takes and the other one doesn't is "
            + "written: how many bytes.");
        // a, b of like length: ab is ahead of ba, b is ahead of aa
        Folder two = with("-a1b2;-b3;-a3;+;");
        two.keep(2);
        two.target("-;");
        t.due("ab ahead of ba", two.apart(3, 2), 2);
        t.due("ab ahead of ba", two.written(), "ab");
        two.target("-a1b2;-a3;+;+;");
        two.keep(2);
        two.target("-;");
        t.due("b ahead of aa", two.apart(2, 3), 1);
        t.due("b ahead of aa", two.written(), "b");
        Folder four = with(4, "-d1;-d2;-d3;+;");
        t.due("ddd", four.apart(0, 2), 3);
        t.due("ddd", four.written(), "ddd");
        // a MARK of 0 is as good as one of 2
        Folder marks = with("?a0b0;");
        marks.keep(2);
        marks.target("-a0b0;");
        t.due("neither takes a word", marks.apart(2, 3), -2);
        // the first state of one with the second state of the other
        Folder second = with("+a1;-;");
        second.keep(2);
        second.target("+a0;");
        t.due("a", second.apart(2, 3), 1);
        t.due("a", second.apart(3, 2), 1);
    }

    private static void apartFar() {
        t.of(26, "The first WORD by ORDER, be it longer than 10 LETTERS, that one of MACHINES m, o takes and the other one doesn't is "
            + "written: how many bytes.");
        // each letter leads on: the first way is that of a's
        Folder wide = with(4, wideChain(40, 4));
        t.due("a chain of 40 by four letters", wide.apart(0, 2), 39);
        t.due("the first one", wide.written(), "a".repeat(39));
        // 39 and 239 letters, .. are taken by a ring of 200, 39 alone by a chain of 40
        Folder far = new Folder();
        far.letters(1);
        far.target(ringIn(25, 39 % 25));
        far.keep(2);
        far.target(ringIn(8, 39 % 8));
        t.due("a ring of 200", far.both(2, 3, 0), 200);
        t.due("target", far.target(Bounds.chain(40)), 40);
        t.due("239 letters", far.apart(3, 2), 239);
        t.due("the last one", far.octet(238), 'a');
        t.due("no more", far.octet(239), -1);
        t.due("told the other way round", far.apart(2, 3), 239);
        // where there is no arrow, asked again and again
        Folder again = with("+a0b0;");
        again.keep(2);
        again.target("+;");
        for (int k = 0; k < 3; k++) {
            t.due("a, again", again.apart(2, 3), 1);
            t.due("a, at once again", again.apart(2, 3), 1);
            t.due("a, again", again.apart(3, 2), 1);
            t.due("none, again", again.apart(2, 2), -2);
        }
    }

    /** A chain that takes each WORD of one LETTER fewer than STATES. */
    private static String wideChain(int states, int letters) {
        StringBuilder all = new StringBuilder();
        for (int s = 0; s < states - 1; s++) {
            all.append('-');
            for (int l = 0; l < letters; l++) {
                all.append((char) ('a' + l)).append(s + 1);
            }
            all.append(';');
        }
        return all.append("+;").toString();
    }

    /** A ring over one LETTER of which that STATE is IN. */
    private static String ringIn(int states, int in) {
        StringBuilder all = new StringBuilder();
        for (int s = 0; s < states; s++) {
            all.append(s == in ? "+a" : "-a").append((s + 1) % states).append(';');
        }
        return all.toString();
    }

    private static void apartNone() {
        t.of(26, "-2: there is none;");
        for (int m = 0; m <= 3; m++) {
            int one = m;
            t.changesNothing("apart(" + m + ", " + m + ")", Bounds::full, x -> x.apart(one, one), -2);
        }
        t.changesNothing("alike in what they take", () -> {
            Folder x = with(EVEN);
            x.keep(2);
            x.target("+a1b2;-a0b1;+a1b0;?;");
            x.writeNode(0);
            return x;
        }, x -> x.apart(2, 3), -2);
        t.changesNothing("alike with 200 states", () -> {
            Folder x = Bounds.ring200(1);
            x.target("+;");
            x.text(2);
            return x;
        }, x -> x.apart(3, 3), -2);
        t.of(26, "NONE for others.");
        noMachine("apart, first", (x, m) -> x.apart(m, 0), -1);
        noMachine("apart, second", (x, m) -> x.apart(0, m), -1);
        noMachine("apart, both", (x, m) -> x.apart(m, m), -1);
    }

    private static void small() {
        t.of(27, "The fewest STATES of a MACHINE with an ARROW by each LETTER from each STATE that takes the WORDS m takes (of whatever many "
            + "LETTERS) and no others.");
        t.due("at first", new Folder().small(0), 1);
        String[] texts = {"+;", "-;", "?;", "+a0b0;", "+a0;", "+a0b0;-a0;", "?a1;+;", EVEN, "-a1b1;-a2b2;-a0b0;", "-a1b2;+a1b1;+a1b2;+a0;"};
        int[] due = {2, 1, 1, 1, 2, 1, 3, 2, 1, 2};
        for (int k = 0; k < texts.length; k++) {
            t.due("small of " + texts[k], with(texts[k]).small(2), due[k]);
        }
        // words longer than 10 letters count
        for (int n : new int[] {10, 11, 12, 39, 40}) {
            t.due("a chain of " + n, with(1, Bounds.chain(n)).small(2), n + 1);
            t.due("a ring of " + n, with(1, Bounds.lasso(0, n, 1)).small(2), n);
            t.due("over two letters, one without arrows", with(2, Bounds.lasso(0, n, 1)).small(2), n + 1);
        }
        Folder ring = Bounds.ring200(1);
        t.due("a ring of 200", ring.small(3), 200);
        t.due("nothing is kept", ring.states(3), 200);
        Folder tree = Bounds.withNodes(120);
        t.due("120 nodes", tree.small(0), smallOfNodes());
        t.changesNothing("small(3)", Bounds::full, x -> x.small(3), 4);
        t.of(27, "NONE for others.");
        noMachine("small", Folder::small, -1);
    }

    /**
     * Of withNodes(120): the empty one; b, c, d are alike, a is not, as ab goes on by abb; aa, ac and the like are alike, ab is
     * not; then aaaabbbb has 8 more; baaaaaa behind ab has 7, of which the last one is that of the others; and where all other
     * ARROWS lead.
     */
    private static int smallOfNodes() {
        int others = 1 + 2 + 2;
        int behind = 8;
        int ownOnes = "abbaaaaaa".length() - "ab".length() - 1;
        return others + behind + ownOnes + 1;
    }

    private static void tight() {
        t.of(28, "A MACHINE as small() tells it is KEPT, its STATES by ORDER of the first WORD by which they are come to, each with MARK 1 or "
            + "2: how many STATES.");
        String[][] texts = {{"?;", "-a0b0;"}, {"+;", "+a1b1;-a1b1;"}, {"?a1;+;", "-a1b2;+a2b2;-a2b2;"},
            {"-a2b1;+a1b1;-a2b0;", "-a1b2;-a1b0;+a2b2;"}, {"+a1b2;-a0b1;+a1b0;?;", EVEN}, {"-b1;+b1;", "-a1b2;-a1b1;+a1b2;"}};
        for (String[] one : texts) {
            Folder x = with(one[0]);
            int states = one[1].length() / 6;
            t.due("tight of " + one[0], x.tight(2), states);
            t.due("tight of " + one[0], x.shown(3), one[1]);
            t.due("as small() tells it", x.small(2), states);
            t.due("the target stays", x.shown(2), one[0]);
            t.due("of what is KEPT itself", x.tight(3), states);
            t.due("of what is KEPT itself", x.shown(3), one[1]);
            t.due("it takes the same words", x.apart(2, 3), -2);
        }
        // whatever was KEPT before, larger or smaller
        Folder again = with(EVEN);
        again.keep(2);
        for (int turn = 0; turn < 2; turn++) {
            for (String[] one : texts) {
                again.target(one[0]);
                t.due("tight again of " + one[0], again.tight(2), one[1].length() / 6);
                t.due("tight again of " + one[0], again.shown(3), one[1]);
            }
        }
        Folder kept = with("+a1b2;-a0b1;+a1b0;?;");
        kept.keep(2);
        t.due("of what is KEPT itself, smaller", kept.tight(3), 2);
        t.due("of what is KEPT itself, smaller", kept.shown(3), EVEN);
        kept.target("?a1;+;");
        kept.keep(2);
        t.due("of what is KEPT itself, larger", kept.tight(3), 3);
        t.due("of what is KEPT itself, larger", kept.shown(3), "-a1b2;+a2b2;-a2b2;");
        Folder first = new Folder();
        t.due("tight(0) at first", first.tight(0), 1);
        t.due("tight(0) at first", first.shown(3), "-a0b0;");
        Folder ring = Bounds.ring200(1);
        t.due("a ring of 200", ring.tight(3), 200);
        t.due("the last one", ring.state(3, 199, 1), 0);
        ring.target("-a1;+;");
        t.due("a small one behind a large one", ring.tight(2), 3);
        t.due("a small one behind a large one", ring.shown(3), "-a1;+a2;-a2;");
        Folder chain = with(1, Bounds.chain(40));
        t.due("a chain of 40", chain.tight(2), 41);
        t.due("its last one", chain.state(3, 39, 0), 1);
        t.due("where it ends", chain.state(3, 40, 1), 40);
        Folder tree = Bounds.withNodes(120);
        t.due("120 nodes", tree.tight(0), smallOfNodes());
        t.due("the same words", tree.apart(0, 3), -2);
        t.of(28, "NONE for others.");
        noMachine("tight", Folder::tight, -1);
    }

    private static void taken() {
        t.of(29, "The k-th (0 on) WORD by ORDER of at most 10 LETTERS that MACHINE m takes is written: how many bytes.");
        Folder x = with(EVEN);
        String[] due = {"", "b", "aa", "bb", "aab", "aba", "baa", "bbb", "aaaa"};
        for (int k = 0; k < due.length; k++) {
            t.due("taken(2, " + k + ")", x.taken(2, k), due[k].length());
            t.due("taken(2, " + k + ")", x.written(), due[k]);
        }
        t.due("the last one", x.taken(2, 1023), 10);
        t.due("the last one", x.written(), "bbbbbbbbbb");
        t.due("the last but one", x.taken(2, 1022), 10);
        t.due("the last but one", x.written(), "bbbbbbbbaa");
        for (int letters = 1; letters <= 4; letters++) {
            Folder all = with(letters, Bounds.lasso(0, 1, letters));
            int many = 0;
            for (int n = 0, power = 1; n <= 10; n++, power *= letters) {
                many += power;
            }
            String last = ("" + (char) ('a' + letters - 1)).repeat(10);
            t.due("the last of all", all.taken(2, many - 1), 10);
            t.due("the last of all", all.written(), last);
            t.due("none more", all.taken(2, many), -2);
        }
        Folder ten = with(1, Bounds.chain(11));
        t.due("one of ten letters", ten.taken(2, 0), 10);
        t.due("no other", ten.taken(2, 1), -2);
        t.due("what was written stays", ten.written(), "aaaaaaaaaa");
    }

    private static void takenOthers() {
        t.of(29, "-2: there are not so many;");
        t.due("one of eleven letters", with(1, Bounds.chain(12)).taken(2, 0), -2);
        t.due("taken(0, 0) at first", new Folder().taken(0, 0), -2);
        Folder x = with(EVEN);
        t.due("taken(2, 1024)", x.taken(2, 1024), -2);
        for (int k : new int[] {1024, 1000000, Bounds.MAX - 1, Bounds.MAX}) {
            t.changesNothing("taken(2, " + k + ")", () -> {
                Folder f = with(EVEN);
                f.taken(2, 3);
                return f;
            }, f -> f.taken(2, k), -2);
        }
        t.of(29, "NONE: k is below 0, for others.");
        noMachine("taken", (f, m) -> f.taken(m, 0), -1);
        noMachine("taken, k below 0", (f, m) -> f.taken(m, -1), -1);
        for (int k : new int[] {-1, -2, Bounds.MIN, Bounds.MIN + 1}) {
            for (int m = 0; m <= 3; m++) {
                int one = m;
                t.changesNothing("taken(" + m + ", " + k + ")", Bounds::full, f -> f.taken(one, k), -1);
            }
        }
    }

    private static void wrong() {
        t.of(30, "How many EXAMPLES MACHINE m tells wrong (IN ones that it doesn't take, NOT ones that it takes).");
        t.due("without examples", with(EVEN).wrong(2), 0);
        Folder x = Bounds.withExamples(40);
        t.due("all right", x.wrong(2), 0);
        x.target("-a0b0;");
        t.due("all wrong: IN ones not taken", x.wrong(2), 40);
        x.target("?a0b0;");
        t.due("without a mark none is taken", x.wrong(2), 40);
        x.target("+;");
        t.due("the empty one alone is taken", x.wrong(2), 39);
        t.due("wrong(0)", x.wrong(0), 0);
        Folder y = with("+a0b0;");
        y.tell("- -a -b");
        t.due("all wrong: NOT ones taken", y.wrong(2), 3);
        y.target("+a0;");
        t.due("b is not taken", y.wrong(2), 2);
        Folder ten = with(1, Bounds.chain(11));
        ten.in("aaaaaaaaaa");
        t.due("ten letters", ten.wrong(2), 0);
        t.changesNothing("wrong(3): a is NOT, and taken", Bounds::full, f -> f.wrong(3), 1);
        t.of(30, "NONE for others.");
        noMachine("wrong", Folder::wrong, -1);
    }

    private static void both() {
        t.of(31, "MACHINES m, o put together are KEPT, with all ARROWS: of pairs of STATES (one of each, or none) those that can be come to "
            + "from both first ones, by ORDER of the first WORD by which; IN (else NOT) is one whose STATES are: 0 IN both, 1 in one at "
            + "least, 2 in m's, not in o's: how many STATES.");
        String[] due = {"-a1b2;-a3b3;-a3b2;-a3b3;", "+a1b2;+a3b3;+a3b2;-a3b3;", "+a1b2;-a3b3;+a3b2;-a3b3;"};
        for (int how = 0; how <= 2; how++) {
            // (0, 0), by a (none, 1), by b (0, none), then (none, none)
            Folder x = with("?a1;+;");
            x.keep(2);
            x.target("+b0;");
            t.due("both(2, 3, " + how + ")", x.both(2, 3, how), 4);
            t.due("both(2, 3, " + how + ")", x.shown(3), due[how]);
            t.due("the target stays", x.shown(2), "+b0;");
            t.due("one pair alone", with("+a0b0;").both(2, 2, how), 1);
            t.due("with the tree at first", new Folder().both(0, 0, how), 2);
        }
        Folder none = new Folder();
        none.both(0, 0, 0);
        t.due("none and none", none.shown(3), "-a1b1;-a1b1;");
        // IN and NOT, of all pairs of MARKS
        String marks = "?+-";
        for (int one = 0; one < 3; one++) {
            for (int other = 0; other < 3; other++) {
                boolean isIn = marks.charAt(one) == '+';
                boolean otherIn = marks.charAt(other) == '+';
                boolean[] in = {isIn && otherIn, isIn || otherIn, isIn && !otherIn};
                for (int how = 0; how <= 2; how++) {
                    Folder x = with(marks.charAt(other) + "a0b0;");
                    x.keep(2);
                    x.target(marks.charAt(one) + "a0b0;");
                    t.due("both", x.both(2, 3, how), 1);
                    t.due(marks.charAt(one) + " and " + marks.charAt(other) + " by " + how, x.shown(3), in[how] ? "+a0b0;" : "-a0b0;");
                }
            }
        }
        Folder self = with(EVEN);
        self.keep(2);
        t.due("what is KEPT with itself", self.both(3, 3, 2), 2);
        t.due("what is KEPT with itself", self.shown(3), "-a1b0;-a0b1;");
    }

    /** Two lassos over so many LETTERS of one ARROW, one KEPT, the other THE TARGET. */
    private static Folder lassos(int letters, int tail, int ring, int otherRing) {
        Folder x = with(letters, Bounds.lasso(tail, ring, 1));
        x.keep(2);
        t.due("target", x.target(Bounds.lasso(0, otherRing, 1)), otherRing);
        return x;
    }

    private static void bothTooMany() {
        t.of(31, "-3, and nothing is KEPT: it would have more than 200;");
        for (int how = 0; how <= 2; how++) {
            int by = how;
            // over one letter: the tail and the least common multiple of the rings
            t.due("199", lassos(1, 1, 18, 11).both(2, 3, how), 199);
            t.due("200", lassos(1, 2, 18, 11).both(2, 3, how), 200);
            t.changesNothing("201", () -> lassos(1, 3, 18, 11), x -> x.both(2, 3, by), -3);
            t.due("200", lassos(1, 0, 25, 8).both(3, 2, how), 200);
            t.changesNothing("201", () -> lassos(1, 1, 25, 8), x -> x.both(3, 2, by), -3);
            t.changesNothing("1560", () -> lassos(1, 0, 40, 39), x -> x.both(3, 2, by), -3);
            // over two letters: none and none, too
            t.due("199 and where b leads", lassos(2, 1, 18, 11).both(2, 3, how), 200);
            t.changesNothing("200 and where b leads", () -> lassos(2, 2, 18, 11), x -> x.both(2, 3, by), -3);
            t.changesNothing("over four letters", () -> lassos(4, 2, 18, 11), x -> x.both(2, 3, by), -3);
        }
        // none was KEPT: the states of a row become a ring of 9, THE TARGET is one of 40
        t.changesNothing("360", () -> {
            Folder x = Bounds.row("..........+");
            t.due("merge(0, 9)", x.merge(0, 9), 9);
            t.due("target", x.target(Bounds.lasso(0, 40, 1)), 40);
            return x;
        }, x -> x.both(0, 2, 0), -3);
        Folder most = lassos(1, 2, 18, 11);
        most.both(2, 3, 1);
        t.due("states(3)", most.states(3), 200);
        t.due("the last one goes back to the third", most.state(3, 199, 1), 2);
        t.due("200 with itself", most.both(3, 3, 0), 200);
        t.due("200 with 11", most.both(3, 2, 0), 200);
        t.due("(0, 0), then none with 199", most.both(0, 3, 1), 200);
        t.changesNothing("(0, 0), then none with 200", () -> Bounds.ring200(1), x -> x.both(0, 3, 1), -3);
    }

    private static void bothOthers() {
        t.of(31, "NONE for others.");
        for (int how = 0; how <= 2; how++) {
            int by = how;
            noMachine("both, first", (x, m) -> x.both(m, 0, by), -1);
            noMachine("both, second", (x, m) -> x.both(0, m, by), -1);
        }
        for (int how : Bounds.beyond(0, 2)) {
            t.changesNothing("both(2, 3, " + how + ")", Bounds::full, x -> x.both(2, 3, how), -1);
            t.changesNothing("both(2, 3, " + how + ") of too many", () -> lassos(1, 3, 18, 11), x -> x.both(2, 3, how), -1);
        }
    }

    private static void useful() {
        t.of(32, "How many STATES of MACHINE m can be come to, and can come to one with MARK 1 (or are one).");
        t.due("at first", new Folder().useful(0), 0);
        String[] texts = {"+;", "-;", "?;", "-a0b0;", "-a1;+;", "-a1;-;", "+a1;-;", "-;+;", "-a1;-a0;+a0;", "-a1b2;+;-b1;", "-a1b2;-a1;-b3;+;",
            "?a0b1;+a0;", "+a1b1;-a1b1;"};
        int[] due = {1, 0, 0, 0, 2, 0, 1, 0, 0, 3, 3, 2, 1};
        for (int k = 0; k < texts.length; k++) {
            t.due("useful of " + texts[k], with(texts[k]).useful(2), due[k]);
        }
        for (int n : new int[] {1, 39, 40}) {
            t.due("a chain of " + n, with(1, Bounds.chain(n)).useful(2), n);
            t.due("a ring of " + n, with(1, Bounds.lasso(0, n, 1)).useful(2), n);
        }
        Folder again = new Folder();
        for (int turn = 0; turn < 2; turn++) {
            for (int k = 0; k < texts.length; k++) {
                again.target(texts[turn == 0 ? k : texts.length - 1 - k]);
                t.due("useful again", again.useful(2), due[turn == 0 ? k : texts.length - 1 - k]);
                t.due("useful twice", again.useful(2), due[turn == 0 ? k : texts.length - 1 - k]);
            }
        }
        Folder ring = Bounds.ring200(1);
        t.due("a ring of 200", ring.useful(3), 200);
        ring.target("-a1;+;-;-a2;");
        t.due("a small one behind a large one", ring.useful(2), 2);
        t.due("each letter leads on", with(4, wideChain(40, 4)).useful(2), 40);
        // backward: each state but the last one goes to the one ahead of it, so the way to the first ones is long
        StringBuilder back = new StringBuilder("-a39;+;");
        for (int s = 2; s < 40; s++) {
            back.append("-a").append(s - 1).append(';');
        }
        t.due("a chain that goes back", with(1, back.toString()).useful(2), 40);
        t.due("120 nodes, all of beginnings of IN ones", Bounds.withNodes(120).useful(0), 120);
        t.changesNothing("useful(3)", Bounds::full, x -> x.useful(3), 4);
        t.of(32, "NONE: there is none.");
        noMachine("useful", Folder::useful, -1);
    }

    private static void longest() {
        t.of(33, "How many LETTERS the longest WORD has that MACHINE m takes.");
        for (int n : new int[] {1, 2, 10, 11, 12, 39, 40}) {
            t.due("a chain of " + n, with(1, Bounds.chain(n)).longest(2), n - 1);
        }
        String[] texts = {"+;", "+a1;-;", "+a1;+;", "-a1b2;+;-b1;", "+a1;-a1;", "-a1;+b2;-b2;", "+;-a1;", "-a1b1;-a2b2;+;"};
        int[] due = {0, 0, 1, 2, 0, 1, 0, 2};
        for (int k = 0; k < texts.length; k++) {
            t.due("longest of " + texts[k], with(texts[k]).longest(2), due[k]);
        }
        t.due("120 nodes", Bounds.withNodes(120).longest(0), 10);
        t.of(33, "-2: it takes none;");
        t.due("at first", new Folder().longest(0), -2);
        String[] none = {"-;", "?;", "-a0b0;", "-;+;", "-a0;+a1;", "?a1b0;-a0;"};
        for (String text : none) {
            t.due("longest of " + text, with(text).longest(2), -2);
        }
        t.of(33, "-3: there are WORDS of however many;");
        String[] endless = {"+a0;", "-a0b1;+;", "-a1;+a0;", "-a1;-a2b1;+;", EVEN, "+a1;-b0;"};
        for (String text : endless) {
            t.due("longest of " + text, with(text).longest(2), -3);
        }
        t.due("a ring of 40", with(1, Bounds.lasso(0, 40, 1)).longest(2), -3);
        t.due("a ring of 200", Bounds.ring200(1).longest(3), -3);
        t.due("a ring that can't come to one that is IN", with(1, Bounds.lasso(39, 1, 1)).longest(2), 0);
        t.due("a ring that can't be come to", with("+a1;+;-a2;+a3;").longest(2), 1);
        Folder again = new Folder();
        for (int turn = 0; turn < 2; turn++) {
            for (int k = 0; k < texts.length; k++) {
                again.target(endless[k % endless.length]);
                t.due("longest again of " + endless[k % endless.length], again.longest(2), -3);
                again.target(texts[k]);
                t.due("longest again of " + texts[k], again.longest(2), due[k]);
                again.target(none[k % none.length]);
                t.due("longest again of " + none[k % none.length], again.longest(2), -2);
            }
        }
        t.due("each letter leads on", with(4, wideChain(40, 4)).longest(2), 39);
        t.changesNothing("longest(2)", Bounds::full, x -> x.longest(2), -3);
        t.of(33, "NONE: there is no such MACHINE.");
        noMachine("longest", Folder::longest, -1);
    }

    private static void text() {
        t.of(34, "MACHINE m's TEXT is written: how many bytes.");
        Folder x = new Folder();
        t.due("text(0) at first", x.text(0), 2);
        t.due("text(0) at first", x.written(), "?;");
        StringBuilder longest = new StringBuilder();
        for (int s = 0; s < 40; s++) {
            longest.append("+-?".charAt(s % 3)).append("a39b10c9d0;");
        }
        Folder forty = with(4, longest.toString());
        t.due("forty states", forty.text(2), longest.length());
        t.due("forty states", forty.written(400), longest.substring(0, 400));
        // 200 states of four arrows: one digit for 10 numbers, two for 90, three for 100
        int due = 200 * 2 + 4 * (200 + 10 + 2 * 90 + 3 * 100);
        Folder most = Bounds.ring200(4);
        t.due("200 states", most.text(3), due);
        String last = "-a199b199c199d199;-a0b0c0d0;";
        for (int k = 0; k < last.length(); k++) {
            t.due("octet " + k + " of the last ones", most.octet(due - last.length() + k), last.charAt(k));
        }
        t.due("no more", most.octet(due), -1);
        Folder all = Bounds.full();
        String[] texts = {"+a1b1;-a2;-;", "+a1b1;-a1;", "-a1;+b0;"};
        for (int m = 0; m <= 2; m++) {
            t.due("text(" + m + ")", all.text(m), texts[m].length());
            t.due("text(" + m + ")", all.written(), texts[m]);
        }
        t.of(34, "NONE: there is none.");
        noMachine("text", Folder::text, -1);
    }

    private static void octet() {
        t.of(35, "Byte k of what was written latest.");
        Folder x = with("+a1;-;");
        x.in("ab");
        x.text(2);
        t.due("by text()", x.written(), "+a1;-;");
        x.writeNode(2);
        t.due("by writeNode()", x.written(), "ab");
        x.taken(2, 0);
        t.due("by taken(), the empty word", x.written(), "");
        x.apart(0, 2);
        t.due("by apart(), the empty word", x.written(), "");
        x.taken(0, 0);
        t.due("by taken()", x.written(), "ab");
        int[] others = {x.writeNode(3), x.taken(0, 1), x.taken(0, -1), x.apart(2, 2), x.apart(2, 4), x.text(1), x.text(4), x.small(2)};
        t.due("calls that write nothing", others.length, 8);
        t.due("it stays", x.written(), "ab");
        t.of(35, "NONE: there is none.");
        t.due("octet(2) of two", x.octet(2), -1);
        for (int k : Bounds.beyond(0, 1)) {
            t.due("octet(" + k + ") of two", x.octet(k), -1);
        }
        t.changesNothing("octet(0) of none", Folder::new, f -> f.octet(0), -1);
        t.changesNothing("octet(8) of eight", Bounds::full, f -> f.octet(8), -1);
        x.writeNode(0);
        t.due("octet(0) of the empty word", x.octet(0), -1);
        t.due("octet(1) of the empty word", x.octet(1), -1);
    }

    private static void teach() {
        t.of(36, "All WORDS of at most n (0 .. 5) LETTERS that aren't EXAMPLES become such, one by one by ORDER, IN if THE TARGET takes them,");
        for (int letters = 1; letters <= 4; letters++) {
            int many = 0;
            int power = 1;
            for (int n = 0; n <= 5; n++) {
                many += power;
                power *= letters;
                Folder x = with(letters, Bounds.lasso(0, 2, letters));
                int came = Math.min(many, 40);
                t.due("teach(" + n + ") of " + letters + " letters", x.teach(n), came);
                t.due("examples", x.is(1), came);
                t.due("wrong(2)", x.wrong(2), 0);
                t.due("the longest one", x.which(came - 1, 2) <= n, true);
                t.due("once more", x.teach(n), 0);
            }
        }
        Folder x = with(EVEN);
        x.tell("-b -aa +bab");
        t.due("teach(2)", x.teach(2), 5);
        int[] in = {1, 0, 0, 0, 0, 0, 1, 1};
        for (int k = 0; k < in.length; k++) {
            t.due("which(" + k + ", 1)", x.which(k, 1), in[k]);
        }
        x.learn(0);
        t.due("none came", x.teach(2), 0);
        t.due("deeds stay then", x.is(7) > 0, true);
        t.due("teach(3)", x.teach(3), 7);
        t.due("deeds go then", x.is(7), 0);
        Folder tape = with(EVEN);
        tape.put("xyz");
        tape.teach(1);
        t.due("the tape is as it was", tape.is(8), 3);
    }

    private static void teachTillRefused() {
        t.of(36, "till example() refuses one: how many came.");
        Folder x = with(EVEN);
        t.due("teach(4)", x.teach(4), 31);
        t.due("nine more", x.teach(5), 9);
        t.due("the last one", x.which(39, 0), 39);
        x.writeNode(39);
        t.due("the last one", x.written(), Bounds.five(8));
        t.due("none more", x.teach(5), 0);
        t.due("drop(5)", x.drop(5), 39);
        t.due("the one that went", x.teach(5), 1);
        t.due("none more", x.teach(2), 0);
        // 120 nodes: the empty one, a, b, c, d, aa, ab, ac are nodes; ad is not, and ba, which is, comes behind it
        Folder y = Bounds.withNodes(120);
        y.target("-;");
        t.due("till ad", y.teach(2), 8);
        t.due("examples", y.is(1), 21);
        t.due("nodes", y.is(3), 120);
        t.due("none more", y.teach(2), 0);
        t.due("ba could still come", y.in("ba"), 120);
        Folder z = Bounds.withNodes(119);
        z.target("-;");
        t.due("ad comes, ba, bb, bc, not bd", z.teach(2), 12);
        t.due("nodes", z.is(3), 120);
    }

    private static void teachOthers() {
        t.of(36, "NONE for others, without THE TARGET.");
        for (int n : Bounds.beyond(0, 5)) {
            t.changesNothing("teach(" + n + ")", Bounds::full, x -> x.teach(n), -1);
            t.changesNothing("teach(" + n + ") without the target", Folder::new, x -> x.teach(n), -1);
        }
        for (int n = 0; n <= 5; n++) {
            int one = n;
            t.changesNothing("teach(" + n + ") without the target", Folder::new, x -> x.teach(one), -1);
            t.changesNothing("teach(" + n + ") with other machines", () -> {
                Folder x = Bounds.told("+ab");
                x.least();
                x.keep(0);
                return x;
            }, x -> x.teach(one), -1);
            t.changesNothing("teach(" + n + ") behind a fault", () -> {
                Folder x = Bounds.told("+ab");
                x.target("+a1;");
                return x;
            }, x -> x.teach(one), -1);
        }
    }
}
