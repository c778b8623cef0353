/** The bounds that the first part of "Terms" names, sentence by sentence: words, examples, nodes, states, steps, deeds. */
public final class BoundsOfTerms {
    private static final Bounds t = new Bounds();
    /** Nine LETTERS, to stand behind the first one of a WORD of ten. */
    private static final String NINE = "ababababa";

    public static void main(String[] args) {
        calls();
        constants();
        letters();
        words();
        order();
        examples();
        nodes();
        marks();
        statesAtFirst();
        statesThen();
        colours();
        folds();
        fails();
        redStays();
        scores();
        stepByFirst();
        stepByScore();
        noStep();
        deeds();
        asAtFirst();
        t.end();
    }

    private static void calls() {
        t.of("What it is", "An object is used for at most 512 calls after it has been made; what later calls answer is free.");
        Folder x = new Folder();
        for (int k = 0; x.calls() < 508; k++) {
            t.due("feed", x.feed(k, 0, 0, 0, 0), 20);
            t.due("end", x.end(0), 0);
        }
        t.due("call 509", x.feed('a' << 24, 0, 0, 0, 0), 20);
        t.due("call 510", x.end(1), 1);
        t.due("call 511", x.example(true), 2);
        t.due("call 512", x.node(1, 0), 1);
        for (int k = 0; k < 600; k++) {
            // whatever it answers, it may not throw
            x.inside().feed(k, k, k, k, k);
            x.inside().example(true);
            x.inside().learn(k % 3);
        }
    }

    private static void constants() {
        t.of("Terms", "The constants: `NONE = -1`: None.");
        t.due("NONE", WordFolder.NONE, -1);
    }

    private static void letters() {
        t.of("Terms", "LETTERS: a .. by how many there are (1 to 4; 2 at first).");
        Folder x = new Folder();
        t.due("is(0) at first", x.is(0), 2);
        t.due("b at first", x.in("b"), 2);
        t.due("c at first", x.in("c"), -2);
        for (int n = 1; n <= 4; n++) {
            t.due("letters(" + n + ")", x.letters(n), true);
            t.due("is(0)", x.is(0), n);
            t.due("the last letter of " + n, x.in("" + (char) ('a' + n - 1)), 2);
            t.due("the next letter of " + n, x.in("" + (char) ('a' + n)), -2);
            t.due("the byte ahead of a", x.in("`"), -2);
            t.due("a with the highest bit", x.in("" + (char) ('a' + 128)), -2);
            t.due("A", x.in("A"), -2);
            t.due("is(1)", x.is(1), 1);
        }
        t.due("letters(0)", x.letters(0), false);
        t.due("letters(5)", x.letters(5), false);
        t.due("is(0)", x.is(0), 4);
    }

    private static void words() {
        t.of("Terms", "WORDS: 0 to 10 LETTERS, written one behind the other.");
        String many = "ab".repeat(400);
        for (int n : new int[] {0, 1, 9, 10}) {
            Folder x = new Folder();
            t.due("a word of " + n, x.in(many.substring(0, n)), n + 1);
            t.due("writeNode(" + n + ")", x.writeNode(n), n);
            t.due("writeNode(" + n + ")", x.written(), many.substring(0, n));
            t.due("takes it", x.takes(0, many.substring(0, n)), 1);
            t.due("guess of it", x.guess(many.substring(0, n)) >= 0, true);
        }
        for (int n : new int[] {11, 12, 19, 20, 21, 256, 266, 799, 800}) {
            t.changesNothing("example of " + n, Folder::new, x -> x.in(many.substring(0, n)), -2);
            t.changesNothing("takes of " + n, Folder::new, x -> x.takes(0, many.substring(0, n)), -2);
            t.changesNothing("guess of " + n, Folder::new, x -> x.guess(many.substring(0, n)), -2);
        }
        for (String none : new String[] {"a b", "a\0", "\0a", "ab\n", "a,b"}) {
            t.changesNothing("other bytes between", Folder::new, x -> x.in(none), -2);
        }
    }

    private static void order() {
        t.of("Terms", "ORDER of WORDS: shorter ones first, then by LETTERS from the first on.");
        Folder x = new Folder();
        x.letters(4);
        String[] byOrder = {"", "ddddddddd", "aaaaaaaaaa", "aaaaaaaaab", "baaaaaaaaa", "dddddddddd"};
        for (int k = byOrder.length - 1; k >= 0; k--) {
            x.in(byOrder[k]);
        }
        for (int k = 0; k < byOrder.length; k++) {
            t.due("which(" + k + ", 2)", x.which(k, 2), byOrder[k].length());
            x.writeNode(x.which(k, 0));
            t.due("example " + k, x.written(), byOrder[k]);
        }
        Folder y = Bounds.told("+ba +b +aa +ab +a +bb");
        String[] nodes = {"", "a", "b", "aa", "ab", "ba", "bb"};
        for (int k = 0; k < nodes.length; k++) {
            y.writeNode(k);
            t.due("node " + k, y.written(), nodes[k]);
        }
    }

    private static void examples() {
        t.of("Terms", "EXAMPLES: unlike WORDS, each IN or NOT, 40 at most.");
        Folder x = Bounds.withExamples(38);
        t.due("is(1)", x.is(1), 38);
        t.due("a 39th", x.in(Bounds.five(7)), 39);
        t.due("is(1)", x.is(1), 39);
        t.due("a 40th, NOT", x.not(Bounds.five(8)), 40);
        t.due("is(1)", x.is(1), 40);
        t.due("IN ones", x.is(2), 39);
        t.due("a 41st", x.in(Bounds.five(9)), -4);
        t.due("is(1)", x.is(1), 40);
        t.due("one alike", x.not(Bounds.five(8)), 40);
        t.due("is(1)", x.is(1), 40);
        t.due("one told otherwise", x.in(Bounds.five(8)), -3);
        t.due("is(1)", x.is(1), 40);
        t.due("drop(39)", x.drop(39), 39);
        t.due("room for one again", x.in(Bounds.five(9)), 40);
        t.due("is(1)", x.is(1), 40);
        t.due("a 41st again", x.in(Bounds.five(10)), -4);
    }

    private static void nodes() {
        t.of("Terms", "NODES: all beginnings of EXAMPLES (the empty one and they themselves too; the empty one also without EXAMPLES), "
            + "numbered from 0 on by ORDER, 120 at most.");
        Folder x = new Folder();
        t.due("nodes without examples", x.is(3), 1);
        t.due("node 0 is the empty one", x.node(0, 3), 0);
        t.due("node 1 is none", x.node(1, 3), -2);
        t.due("with the empty word", x.in(""), 1);
        t.due("with bab", x.in("bab"), 4);
        t.due("with a", x.in("a"), 5);
        String[] nodes = {"", "a", "b", "ba", "bab"};
        for (int k = 0; k < nodes.length; k++) {
            t.due("writeNode(" + k + ")", x.writeNode(k), nodes[k].length());
            t.due("node " + k, x.written(), nodes[k]);
        }
        Folder y = Bounds.withNodes(118);
        t.due("118 nodes", y.is(3), 118);
        t.due("119 nodes", y.in("ad"), 119);
        t.due("two more", y.in("bda"), -5);
        t.due("119 nodes stay", y.is(3), 119);
        t.due("120 nodes", y.in("bd"), 120);
        t.due("one more", y.in("cd"), -5);
        t.due("120 nodes stay", y.is(3), 120);
        t.due("none more", y.in("dcaaaabbb"), 120);
        y.writeNode(119);
        t.due("the last node", y.written(), "dcaaaabbbb");
        t.due("node 120 is none", y.node(120, 0), -2);
    }

    private static void marks() {
        t.of("Terms", "MARK of a NODE: 1 IN, 2 NOT, 0 neither told.");
        Folder x = Bounds.told("+ab -b");
        int[] due = {0, 0, 2, 1};
        for (int k = 0; k < due.length; k++) {
            t.due("node(" + k + ", 0)", x.node(k, 0), due[k]);
        }
        x.tell("- +a");
        t.due("the empty one told NOT", x.node(0, 0), 2);
        t.due("a told IN", x.node(1, 0), 1);
        x.drop(0);
        t.due("the empty one told no more", x.node(0, 0), 0);
    }

    private static void statesAtFirst() {
        t.of("Terms", "STATES: sets of NODES; at first one for each NODE.");
        t.due("states without examples", new Folder().is(4), 1);
        Folder x = Bounds.withNodes(120);
        t.due("states of 120 nodes", x.is(4), 120);
        for (int k = 0; k < 120; k++) {
            t.due("node(" + k + ", 4)", x.node(k, 4), k);
        }
    }

    private static void statesThen() {
        t.of("Terms", "A STATE's NAME is its least NODE; its MARK that of a NODE in it (0, if none has one); an ARROW by a LETTER goes "
            + "from it to the STATE of a NODE that is one of its NODES and that LETTER behind.");
        // 0 empty, 1 a, 2 b, 3 aa +, 4 bb -
        Folder x = Bounds.told("+aa -bb");
        t.due("merge(4, 1)", x.merge(4, 1), 4);
        t.due("the name of bb's", x.node(4, 4), 1);
        t.due("a's state has the mark of bb, the arrow of a", x.shown(0), "?a1b2;-a3;?b1;+;");
        t.due("4 is no name", x.score(0, 4, 0), -2);
        t.due("merge(3, 0)", x.merge(3, 0), 3);
        t.due("the name of aa's", x.node(3, 4), 0);
        t.due("arrows to it", x.shown(0), "+a1b2;-a0;?b1;");
        // 0 empty, 1 a, 2 b, 3 aa +, 4 ba +
        Folder y = Bounds.told("+aa +ba");
        t.due("merge(2, 1)", y.merge(2, 1), 3);
        t.due("none of both has a mark", y.shown(0), "?a1b1;?a2;+;");
    }

    private static void colours() {
        t.of("Terms", "RED STATES: at first that of NODE 0; BLUE ones: not RED, with an ARROW from a RED one.");
        Folder none = new Folder();
        t.due("RED without examples", none.is(5), 1);
        t.due("BLUE without examples", none.is(6), 0);
        t.due("node 0", none.colours(), "R0");
        for (int n = 1; n <= 4; n++) {
            Folder x = new Folder();
            x.letters(n);
            for (int l = 0; l < n; l++) {
                x.in("" + (char) ('a' + l) + "a");
            }
            t.due("RED ones of " + n, x.is(5), 1);
            t.due("BLUE ones of " + n, x.is(6), n);
            t.due("a", x.node(1, 5), 2);
            t.due("aa", x.node(n + 1, 5), 0);
        }
        Folder self = Bounds.row(".++");
        t.due("merge(1, 0)", self.merge(1, 0), 1);
        t.due("an arrow from a RED one to itself", self.is(6), 0);
        // 0 empty +, 1 a -, 2 b -, 3 aa -: a becomes RED, then b and aa are BLUE
        Folder two = Bounds.told("+ -a -b -aa");
        two.step(0);
        t.due("two RED, two BLUE", two.colours(), "R0 R1 B2 B3");
        two.merge(3, 2);
        t.due("arrows from two RED ones", two.colours(), "R0 R1 B2 B2");
        t.due("one BLUE", two.is(6), 1);
    }

    private static void folds() {
        t.of("Terms", "To MERGE two unlike STATES: they become one; as long as two NODES of a STATE have such NODES behind them by one "
            + "LETTER in unlike STATES, these become one, too.");
        t.due("none behind", Bounds.told("+a +b").merge(1, 2), 2);
        t.due("like ones", Bounds.told("+a +b").merge(1, 1), -2);
        Folder x = Bounds.told("+a" + NINE + " +b" + NINE);
        t.due("21 states", x.is(4), 21);
        t.due("ten pairs become one", x.merge(1, 2), 11);
        for (int k = 1; k <= 20; k++) {
            t.due("node(" + k + ", 4)", x.node(k, 4), k % 2 == 0 ? k - 1 : k);
        }
        Folder y = Bounds.told("+a" + NINE + " +b" + NINE.substring(0, 8));
        t.due("20 states", y.is(4), 20);
        t.due("nine pairs become one", y.merge(2, 1), 11);
        t.due("the last one stays", y.node(19, 4), 19);
        int[] due = {1, 2, 3, 4, 5, 6, 7, 8, 9, 10};
        for (int k = 1; k <= 10; k++) {
            // over one LETTER, what is as far behind becomes one, too
            t.due("merge(0, " + k + ") of a row", Bounds.row("..........+").merge(0, k), due[k - 1]);
        }
        Folder ring = Bounds.row("..........+");
        t.due("merge(4, 0)", ring.merge(4, 0), 4);
        t.due("ring", ring.colours(), "R0 B1 .2 .3 R0 B1 .2 .3 R0 B1 .2");
    }

    private static void fails() {
        t.of("Terms", "It FAILS, if a STATE would have MARKS 1 and 2: then all is as it was.");
        t.changesNothing("they themselves", () -> Bounds.told("+a -b"), x -> x.merge(1, 2), -1);
        t.changesNothing("ten letters deep", () -> Bounds.told("+a" + NINE + " -b" + NINE), x -> x.merge(1, 2), -1);
        t.due("not so deep on one side", Bounds.told("+a" + NINE + " -b" + NINE.substring(0, 8)).merge(1, 2), 11);
        // the empty word is NOT, that of ten letters IN: a ring of 1, 2, 5, 10 brings them together
        for (int k = 1; k <= 10; k++) {
            int ring = k;
            if (10 % k == 0) {
                t.changesNothing("merge(0, " + k + ") of a row", () -> Bounds.row("-.........+"), x -> x.merge(0, ring), -1);
            } else {
                t.due("merge(0, " + k + ") of a row", Bounds.row("-.........+").merge(0, k), k);
            }
        }
        t.changesNothing("behind deeds of both kinds", BoundsOfTerms::someDeeds, x -> x.merge(0, 1), -1);
        t.changesNothing("a score that fails", BoundsOfTerms::someDeeds, x -> x.score(2, 0, 1), -1);
        t.changesNothing("a score that does not", BoundsOfTerms::someDeeds, x -> x.score(2, 1, 3), 1);
    }

    /** 0 empty +, 1 a -, 2 b -, 3 aa -: a became RED, and took in b. */
    private static Folder someDeeds() {
        Folder x = Bounds.told("+ -a -b -aa");
        x.step(0);
        x.step(0);
        x.text(0);
        return x;
    }

    private static void redStays() {
        t.of("Terms", "What a RED one became part of is RED.");
        // 0 empty +, 1 a, 2 b -, 3 aa +: b can't be merged with 0
        Folder x = Bounds.told("+ -b +aa");
        x.step(1);
        t.due("b is RED", x.colours(), "R0 B1 R2 .3");
        t.due("merge(1, 2)", x.merge(1, 2), 3);
        t.due("so is its state by a lower name", x.colours(), "R0 R1 R1 B3");
        x.undo();
        t.due("no more", x.colours(), "R0 B1 R2 .3");
        x.merge(2, 1);
        t.due("told the other way round", x.colours(), "R0 R1 R1 B3");
        Folder neither = Bounds.told("+aa +bb");
        neither.merge(3, 4);
        t.due("none of both is RED", neither.colours(), "R0 B1 B2 .3 .3");
        // 0 empty +, 1 a -, 2 b, 3 ba -: a is RED; with b and the empty one, ba and a become one
        Folder behind = Bounds.told("+ -a -ba");
        behind.step(0);
        t.due("a is RED", behind.colours(), "R0 R1 B2 .3");
        t.due("merge(2, 0)", behind.merge(2, 0), 2);
        t.due("what was folded, too", behind.colours(), "R0 R1 R0 R1");
    }

    private static void scores() {
        t.of("Terms", "SCORE of a MERGE: 0 by FIRST; by EVIDENCE (1) by how many STATES with a MARK there are fewer then; by SIZE (2) by "
            + "how many STATES.");
        // 0 empty, 1 a, 2 b, 3 aa +, 4 ba +
        Folder x = Bounds.told("+aa +ba");
        int[][] due = {{1, 2, 0, 1, 2}, {3, 4, 0, 1, 1}, {1, 3, 0, 0, 1}, {0, 3, 0, 0, 1}, {0, 1, 0, 0, 2}};
        for (int[] one : due) {
            for (int how = 0; how <= 2; how++) {
                t.due("score(" + how + ", " + one[0] + ", " + one[1] + ")", x.score(how, one[0], one[1]), one[2 + how]);
            }
        }
        Folder all = Bounds.row("+++++++++++");
        t.due("the most by evidence of a row", all.score(1, 0, 1), 10);
        t.due("the most by size of a row", all.score(2, 0, 1), 10);
        Folder few = Bounds.row("..........+");
        t.due("by evidence with one mark", few.score(1, 0, 1), 0);
        t.due("by size with one mark", few.score(2, 0, 1), 10);
    }

    private static void stepByFirst() {
        t.of("Terms", "A STEP by FIRST (0): the least BLUE STATE (by NAMES) is MERGED with the least RED one with which that does not "
            + "FAIL; if there is none, it becomes RED.");
        // 0 empty +, 1 a -, 2 b -, 3 aa -
        Folder x = Bounds.told("+ -a -b -aa");
        t.due("a fails with 0", x.step(0), 4);
        t.due("it becomes RED", x.deedShown(0), "0 1 -1 0");
        t.due("b fails with 0", x.step(0), 3);
        t.due("not with a", x.deedShown(1), "1 2 1 0");
        t.due("aa likewise", x.step(0), 2);
        t.due("aa likewise", x.deedShown(2), "1 3 1 0");
        t.due("none is left", x.step(0), -1);
        // 0 empty +, 1 a -, 2 b, 3 bb +: b could be merged with both
        Folder y = Bounds.told("+ -a +bb");
        y.step(0);
        t.due("b could be merged with a", y.score(0, 2, 1), 0);
        t.due("b with 0", y.step(0), 2);
        t.due("the least RED one", y.deedShown(1), "1 2 0 0");
        // b was RED with other examples: that is nothing to a, which could be merged with it
        Folder z = Bounds.told("+ +a -b");
        z.step(1);
        t.due("b is RED", z.colours(), "R0 B1 R2");
        z.drop(1);
        z.not("a");
        z.step(0);
        t.due("a becomes RED", z.deedShown(0), "0 1 -1 0");
    }

    private static void stepByScore() {
        t.of("Terms", "By EVIDENCE, SIZE: if some BLUE one can be MERGED with no RED one, the least such becomes RED; else that MERGE is "
            + "done that has the greatest SCORE, of like ones that of the least BLUE one, then of the least RED one.");
        for (int how = 1; how <= 2; how++) {
            Folder x = new Folder();
            x.letters(3);
            x.tell("+ +a -b -c");
            x.step(how);
            t.due("b and c can be merged with none", x.deedShown(0), "0 2 -1 0");
            x.step(how);
            t.due("a and c have like scores", x.deedShown(1), "1 1 0 1");
            x.step(how);
            t.due("c", x.deedShown(2), "1 3 2 1");
            t.due("none is left", x.step(how), -1);
            Folder y = Bounds.told("+ +a +b +bb");
            y.step(how);
            t.due("b has the greater score", y.deedShown(0), "1 2 0 2");
            // 0 empty +, 1 a -, 2 b, 3 aa -, 4 ba -: b has like scores with both RED ones
            Folder z = Bounds.told("+ -a -aa -ba");
            z.step(how);
            t.due("a becomes RED", z.deedShown(0), "0 1 -1 0");
            t.due("scores of b", z.score(how, 2, 0), z.score(how, 2, 1));
            z.step(how);
            t.due("the least RED one", z.deedShown(1), how == 1 ? "1 2 0 1" : "1 2 0 2");
        }
        // three were BLUE with other examples; now the third one, ab, is not, and has the greatest score
        Folder x = new Folder();
        x.letters(3);
        x.tell("+a +b +c");
        t.due("BLUE ones", x.is(6), 3);
        x.drop(0);
        x.drop(0);
        x.drop(0);
        x.tell("+b +aba +abb");
        t.due("BLUE ones", x.is(6), 2);
        t.due("the score of ab", x.score(1, 3, 0), 1);
        x.step(1);
        t.due("of like ones that of a", x.deedShown(0), "1 1 0 0");
    }

    private static void noStep() {
        t.of("Terms", "Without BLUE ones there is no STEP.");
        for (int how = 0; how <= 2; how++) {
            int by = how;
            t.changesNothing("step(" + how + ") without examples", Folder::new, x -> x.step(by), -1);
            t.changesNothing("step(" + how + ") with the empty word", () -> Bounds.told("+"), x -> x.step(by), -1);
            t.changesNothing("step(" + how + ") behind learn", () -> {
                Folder x = Bounds.told("+ -a -ba");
                x.learn(by);
                return x;
            }, x -> x.step(by), -1);
            t.due("step(" + how + ") with one BLUE", Bounds.told("+a").step(how), 1);
        }
    }

    private static void deeds() {
        t.of("Terms", "DEEDS: MERGES and such as became RED, since the STATES were at first; 200 at most.");
        Folder x = someDeeds();
        t.due("one of each kind", x.is(7), 2);
        t.due("one that became RED", x.deed(0, 0), 0);
        t.due("a merge", x.deed(1, 0), 1);
        x.learn(0);
        t.due("since the states were at first", x.is(7), 3);
        // each DEED leaves one STATE fewer that is not RED, of 119: no calls come to 200, and BoundsOfFolds sets them
        Folder most = Bounds.withNodes(120);
        for (int k = 118; k >= 0; k--) {
            t.due("merge(" + k + ", " + (k + 1) + ")", most.merge(k, k + 1), k + 1);
        }
        t.due("as many as there can be", most.is(7), 119);
        t.due("no two states are left", most.merge(0, 1), -2);
        t.due("the last one", most.deedShown(118), "1 0 1 0");
        for (int left = 118; left >= 0; left--) {
            t.due("undo", most.undo(), left);
        }
        t.due("states", most.is(4), 120);
    }

    private static void asAtFirst() {
        t.of("Terms", "Whenever LETTERS, EXAMPLES are told, STATES are as at first, without DEEDS.");
        Folder x = someDeeds();
        t.due("letters(2)", x.letters(2), true);
        t.due("deeds", x.is(7), 0);
        t.due("states", x.colours(), "R0");
        Folder y = someDeeds();
        t.due("a new example", y.in("ab"), 5);
        t.due("deeds", y.is(7), 0);
        t.due("states", y.colours(), "R0 B1 B2 .3 .4");
        Folder beginning = Bounds.told("+aa");
        beginning.learn(0);
        t.due("a new example without a new node", beginning.in("a"), 3);
        t.due("deeds", beginning.is(7), 0);
        t.due("states", beginning.is(4), 3);
        Folder z = someDeeds();
        t.due("drop(1) of one that is still a beginning", z.drop(1), 3);
        t.due("deeds", z.is(7), 0);
        t.due("states", z.colours(), "R0 B1 B2 .3");
        Folder taught = someDeeds();
        taught.target("+a0b0;");
        t.due("the target is no example", taught.is(7), 2);
        t.due("teach(1): all are examples", taught.teach(1), 0);
        t.due("deeds stay", taught.is(7), 2);
        t.due("teach(2)", taught.teach(2), 3);
        t.due("deeds", taught.is(7), 0);
        t.due("states", taught.is(4), 7);
        t.changesNothing("letters refused", BoundsOfTerms::someDeeds, f -> f.letters(5) ? 1 : 0, 0);
        t.changesNothing("an example alike", BoundsOfTerms::someDeeds, f -> f.not("aa"), 4);
        t.changesNothing("an example refused", BoundsOfTerms::someDeeds, f -> f.in("aa"), -3);
        t.changesNothing("a drop refused", BoundsOfTerms::someDeeds, f -> f.drop(4), -1);
    }
}
