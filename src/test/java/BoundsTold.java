/** The bounds that promises 1 to 10 name, sentence by sentence: a new object, letters, the tape, examples, nodes. */
public final class BoundsTold {
    private static final Bounds t = new Bounds();

    public static void main(String[] args) {
        newObject();
        letters();
        lettersOthers();
        feed();
        feedTooMuch();
        end();
        endOthers();
        exampleTape();
        exampleAlike();
        exampleNoWord();
        exampleOtherwise();
        exampleFull();
        exampleFullTree();
        exampleFirstThatFits();
        drop();
        dropNone();
        which();
        is();
        node();
        writeNode();
        t.end();
    }

    private static void newObject() {
        t.of(1, "Two LETTERS, no EXAMPLES.");
        Folder x = new Folder();
        int[] due = {2, 0, 0, 1, 1, 1, 0, 0, 0};
        for (int what = 0; what < due.length; what++) {
            t.due("is(" + what + ")", x.is(what), due[what]);
        }
        t.due("which(0, 0)", x.which(0, 0), -2);
        t.due("drop(0)", x.drop(0), -1);
        t.due("undo()", x.undo(), -1);
        t.due("tries()", x.tries(), 0);
        t.due("fault()", x.fault(), -1);
        t.due("octet(0)", x.octet(0), -1);
        t.due("state(0, 0, 2)", x.state(0, 0, 2), -1);
        t.due("state(0, 0, 3)", x.state(0, 0, 3), -2);
        t.sameShown("one of its own", () -> {
            Bounds.full();
            return new Folder();
        }, Folder::new);
    }

    private static void letters() {
        t.of(2, "How many LETTERS (1 .. 4) there are: true; no EXAMPLES, no MACHINES 1 to 3 then.");
        for (int n = 1; n <= 4; n++) {
            Folder x = Bounds.full();
            t.due("states(1)", x.states(1), 2);
            t.due("states(3)", x.states(3), 6);
            t.due("letters(" + n + ")", x.letters(n), true);
            int[] due = {n, 0, 0, 1, 1, 1, 0, 0, 0};
            for (int what = 0; what < due.length; what++) {
                t.due("is(" + what + ") behind letters(" + n + ")", x.is(what), due[what]);
            }
            for (int m = 1; m <= 3; m++) {
                t.due("states(" + m + ")", x.states(m), -1);
            }
            t.due("states(0)", x.states(0), 1);
            t.due("tries() of the latest least()", x.tries(), Bounds.full().tries());
            t.due("fault() of the latest target()", x.fault(), 2);
            t.due("what was written latest", x.written(), "-a1;+b0;");
            t.due("keep(1)", x.keep(1), -1);
            t.due("teach(1)", x.teach(1), -1);
        }
        Folder y = new Folder();
        y.put("ab");
        t.due("letters(3)", y.letters(3), true);
        t.due("the tape is as it was", y.is(8), 2);
        t.due("the tape is as it was", y.example(true), 3);
        Folder z = Bounds.withNodes(120);
        t.due("letters(2) with 120 nodes", z.letters(2), true);
        t.due("nodes", z.is(3), 1);
        t.due("room again", z.in("ababababab"), 11);
    }

    private static void lettersOthers() {
        t.of(2, "False for others.");
        for (int n : Bounds.beyond(1, 4)) {
            t.changesNothing("letters(" + n + ")", Bounds::full, x -> x.letters(n) ? 1 : 0, 0);
        }
    }

    private static void feed() {
        t.of(3, "Twenty bytes come behind the tape, the highest of a first: how many it has.");
        Folder x = new Folder();
        t.due("feed", x.feed(text("+a0b"), text("0;-a"), text("1b1;"), text("?a2b"), text("2;+;")), 20);
        t.due("all twenty, as they came", x.target(), 4);
        t.due("text", x.shown(2), "+a0b0;-a1b1;?a2b2;+;");
        t.due("feed", x.feed(text("+a0b"), text("0;-a"), text("1b1;"), text("?a2b"), text("2;+;")), 20);
        t.due("feed", x.feed(text("-a4b"), text("4;+a"), text("1b1;"), text("?a2b"), text("7;+;")), 40);
        t.due("behind the tape", x.target(), 8);
        for (int place = 0; place < 20; place++) {
            // one byte that is none of a text, 0 or with the highest bit, at each place
            for (int octet : new int[] {0, 128, 255}) {
                int[] five = {text("+a0b"), text("0;-a"), text("1b1;"), text("?a2b"), text("2;+;")};
                five[place / 4] = five[place / 4] & ~(255 << 24 - place % 4 * 8) | octet << 24 - place % 4 * 8;
                t.due("feed", x.feed(five[0], five[1], five[2], five[3], five[4]), 20);
                t.due("target", x.target(), -1);
                t.due("byte " + octet + " at " + place, x.fault(), place);
            }
        }
        Folder y = new Folder();
        y.put("abb");
        t.due("behind three", y.feed(text("ab\0\0"), 0, 0, 0, 0), 23);
        y.end(5);
        t.due("five letters", y.example(true), 6);
        y.writeNode(5);
        t.due("five letters", y.written(), "abbab");
    }

    private static int text(String four) {
        return four.charAt(0) << 24 | four.charAt(1) << 16 | four.charAt(2) << 8 | four.charAt(3);
    }

    private static void feedTooMuch() {
        t.of(3, "NONE, and none come, if there would be more than 800.");
        Folder x = new Folder();
        x.put("+a0;");
        t.due("behind 4", x.feed(0, 0, 0, 0, 0), 24);
        for (int n = 44; n <= 784; n += 20) {
            t.due("feed to " + n, x.feed(-1, -1, -1, -1, -1), n);
        }
        t.due("804 would be", x.feed(-1, -1, -1, -1, -1), -1);
        t.due("is(8)", x.is(8), 784);
        t.due("end(781)", x.end(781), 781);
        t.due("801 would be", x.feed(-1, -1, -1, -1, -1), -1);
        t.due("is(8)", x.is(8), 781);
        t.due("end(780)", x.end(780), 780);
        t.due("800", x.feed(-1, -1, -1, -1, -1), 800);
        t.due("is(8)", x.is(8), 800);
        t.due("820 would be", x.feed(-1, -1, -1, -1, -1), -1);
        t.due("end(800)", x.end(800), 800);
        t.due("end(779)", x.end(779), 779);
        t.due("799", x.feed(-1, -1, -1, -1, -1), 799);
        t.due("819 would be", x.feed(0, 0, 0, 0, 0), -1);
        t.due("end(4)", x.end(4), 4);
        t.due("its first bytes are as they were", x.target(), 1);
    }

    private static void end() {
        t.of(4, "The tape has its first n bytes alone: n.");
        Folder x = new Folder();
        t.due("end(0) of none", x.end(0), 0);
        x.put("abababababababababab");
        t.due("is(8)", x.is(8), 20);
        t.due("end(20)", x.end(20), 20);
        t.due("end(19)", x.end(19), 19);
        t.due("is(8)", x.is(8), 19);
        t.due("end(10)", x.end(10), 10);
        t.due("end(1)", x.end(1), 1);
        t.due("what was cut does not come again", x.end(2), -1);
        x.put("bb");
        t.due("behind the first one", x.example(true), 4);
        x.writeNode(3);
        t.due("behind the first one", x.written(), "abb");
        x.put("ab");
        t.due("end(0)", x.end(0), 0);
        t.due("the empty word", x.example(true), 4);
        t.due("the empty word", x.node(0, 0), 1);
        for (int n = 20; n <= 800; n += 20) {
            x.feed(0, 0, 0, 0, 0);
        }
        t.due("end(800)", x.end(800), 800);
        t.due("end(799)", x.end(799), 799);
    }

    private static void endOthers() {
        t.of(4, "NONE, and nothing is done, if it has not so many, or n is below 0.");
        for (int n : new int[] {-1, -2, Bounds.MIN, 4, 5, 800, 801, 259, Bounds.MAX}) {
            t.changesNothing("end(" + n + ") of 3", () -> Bounds.full().put("aba"), x -> x.end(n), -1);
            Folder x = new Folder().put("aba");
            x.end(n);
            t.due("its bytes behind end(" + n + ")", x.example(true), 4);
        }
        for (int n : new int[] {-1, 1, Bounds.MIN, Bounds.MAX}) {
            t.changesNothing("end(" + n + ") of none", Bounds::full, x -> x.end(n), -1);
        }
        Folder most = new Folder();
        for (int n = 20; n <= 800; n += 20) {
            most.feed(0, 0, 0, 0, 0);
        }
        t.due("end(801) of 800", most.end(801), -1);
        t.due("is(8)", most.is(8), 800);
    }

    private static void exampleTape() {
        t.of(5, "The tape (empty then) is a WORD, IN (true) or NOT, as an EXAMPLE: how many NODES there are;");
        Folder x = new Folder();
        t.due("the empty tape is a word", x.example(true), 1);
        t.due("one letter", x.in("b"), 2);
        t.due("ten letters", x.not("babababaab"), 11);
        t.due("the tape is empty", x.is(8), 0);
        t.due("examples", x.is(1), 3);
        t.due("IN ones", x.is(2), 2);
        t.due("node(0, 0)", x.node(0, 0), 1);
        t.due("node(10, 0)", x.node(10, 0), 2);
        t.due("none without a byte", x.example(true), 11);
        // whatever it answers, the tape is empty then
        String[] others = {"c", "b", "aaaaaaaaaaa"};
        int[] answers = {-2, -3, -2};
        for (int k = 0; k < others.length; k++) {
            t.due("not " + others[k], x.not(others[k]), answers[k]);
            t.due("the tape is empty", x.is(8), 0);
        }
        Folder y = Bounds.withExamples(40);
        t.due("a 41st", y.in(Bounds.five(20)), -4);
        t.due("the tape is empty", y.is(8), 0);
        Folder z = Bounds.withNodes(120);
        t.due("121 nodes", z.in("dd"), -5);
        t.due("the tape is empty", z.is(8), 0);
    }

    private static void exampleAlike() {
        t.of(5, "it is one alike already: likewise, and nothing changes (STATES, DEEDS neither).");
        t.changesNothing("IN", Bounds::full, x -> x.in(""), 4);
        t.changesNothing("NOT", Bounds::full, x -> x.not("aa"), 4);
        t.changesNothing("of 40 examples", () -> {
            Folder x = Bounds.withExamples(40);
            x.learn(1);
            return x;
        }, x -> x.in(Bounds.five(8)), 40);
        t.changesNothing("of 120 nodes", () -> {
            Folder x = Bounds.withNodes(120);
            x.step(2);
            return x;
        }, x -> x.in("abbaaaaaa"), 120);
    }

    private static void exampleNoWord() {
        t.of(5, "-2: no WORD;");
        for (String none : new String[] {"c", "ac", "abababababa", "`", "a\0", "A", "\u00e1", "b b", "aaaaaaaaac"}) {
            t.changesNothing("example " + none, Bounds::full, x -> x.in(none), -2);
            t.changesNothing("example " + none, Bounds::full, x -> x.not(none), -2);
        }
        t.due("ten letters are one", new Folder().in("ababababab"), 11);
        Folder x = new Folder();
        x.feed(text("ab\0\0"), 0, 0, 0, 0);
        t.due("twenty bytes without end()", x.example(true), -2);
    }

    private static void exampleOtherwise() {
        t.of(5, "-3: it is one told otherwise;");
        t.changesNothing("IN before", Bounds::full, x -> x.not(""), -3);
        t.changesNothing("NOT before", Bounds::full, x -> x.in("aa"), -3);
        Folder x = Bounds.told("+ab");
        t.due("a beginning is not told", x.not("a"), 3);
        t.due("then it is", x.in("a"), -3);
        x.drop(0);
        t.due("told no more", x.in("a"), 3);
    }

    private static void exampleFull() {
        t.of(5, "-4: 40 EXAMPLES are there;");
        t.due("39 are there", Bounds.withExamples(39).in(Bounds.five(8)), 40);
        t.changesNothing("40 are there", () -> Bounds.withExamples(40), x -> x.in(Bounds.five(9)), -4);
        t.changesNothing("40 are there, NOT", () -> Bounds.withExamples(40), x -> x.not("ababababab"), -4);
    }

    private static void exampleFullTree() {
        t.of(5, "-5: there would be more than 120 NODES");
        t.due("119 and one", Bounds.withNodes(119).in("ad"), 120);
        t.changesNothing("119 and two", () -> Bounds.withNodes(119), x -> x.in("ada"), -5);
        t.due("119 and none", Bounds.withNodes(119).in("aba"), 119);
        t.changesNothing("120 and one", () -> Bounds.withNodes(120), x -> x.in("ad"), -5);
        t.due("120 and none", Bounds.withNodes(120).not("abb"), 120);
        t.due("113 and seven", Bounds.withNodes(113).in("abbdddddd"), 120);
        t.changesNothing("113 and eight", () -> Bounds.withNodes(113), x -> x.in("abbddddddd"), -5);
        t.due("119 and a first letter", withoutD(119).in("d"), 120);
        t.changesNothing("119, a first letter and one behind it", () -> withoutD(119), x -> x.in("da"), -5);
        t.changesNothing("120 and a first letter", () -> withoutD(120), x -> x.in("d"), -5);
        Folder x = Bounds.withNodes(120);
        t.due("drop(12), of nine nodes of its own", x.drop(12), 12);
        t.due("is(3)", x.is(3), 111);
        t.due("nine more", x.in("ddaaaaaaaa"), 120);
        t.due("one more", x.in("cd"), -5);
    }

    /** 113 to 120 NODES, none of which begins with d. */
    private static Folder withoutD(int many) {
        Folder x = new Folder();
        x.letters(4);
        for (char first = 'a'; first <= 'c'; first++) {
            for (char second = 'a'; second <= 'd'; second++) {
                x.in("" + first + second + "aaaabbbb");
            }
        }
        t.due("nodes", x.in("abb" + "a".repeat(many - 113)), many);
        return x;
    }

    private static void exampleFirstThatFits() {
        t.of(5, "(the first that fits; nothing is done then).");
        // 120 NODES, 40 EXAMPLES: 13 as withNodes() tells them, and 27 of their beginnings
        t.due("39 examples, 120 nodes: a new node", fullTwice(39).in("dd"), -5);
        t.due("39 examples, 120 nodes: none new", fullTwice(39).in("dcaaaabbb"), 120);
        t.changesNothing("-4 ahead of -5", () -> fullTwice(40), x -> x.in("dd"), -4);
        t.changesNothing("-4 without -5", () -> fullTwice(40), x -> x.in("dcaaaabbb"), -4);
        t.changesNothing("-3 ahead of -4", () -> fullTwice(40), x -> x.not("a"), -3);
        t.changesNothing("alike ahead of -4", () -> fullTwice(40), x -> x.in("a"), 120);
        t.changesNothing("-2 ahead of -4", () -> fullTwice(40), x -> x.in("e"), -2);
        t.changesNothing("-2 ahead of -5", () -> Bounds.withNodes(120), x -> x.in("ddddddddddd"), -2);
    }

    private static Folder fullTwice(int examples) {
        Folder x = Bounds.withNodes(120);
        for (char first = 'a'; first <= 'd'; first++) {
            for (int n = 1; n <= 7 && x.is(1) < examples; n++) {
                x.in((first + "aaaaabbbb").substring(0, n));
            }
        }
        t.due("examples", x.is(1), examples);
        t.due("nodes", x.is(3), 120);
        return x;
    }

    private static void drop() {
        t.of(6, "EXAMPLE k (by ORDER) goes: how many are left;");
        // by ORDER: empty, b, ab, bb
        Folder x = Bounds.told("+ab -bb +b -");
        x.learn(0);
        t.due("drop(3), the last one", x.drop(3), 3);
        t.due("bb is no node", x.is(3), 4);
        t.due("deeds", x.is(7), 0);
        t.due("bb may be told otherwise", x.in("bb"), 5);
        t.due("drop(0), the first one", x.drop(0), 3);
        t.due("the empty node stays", x.node(0, 0), 0);
        t.due("drop(1), ab", x.drop(1), 2);
        t.due("a goes with ab", x.is(3), 3);
        t.due("drop(0), b", x.drop(0), 1);
        t.due("b is still a beginning of bb", x.is(3), 3);
        t.due("without a mark", x.node(1, 0), 0);
        t.due("the only one", x.drop(0), 0);
        t.due("nodes", x.is(3), 1);
        t.due("none is left", x.drop(0), -1);
        Folder y = Bounds.withExamples(40);
        t.due("drop(39) of 40", y.drop(39), 39);
        t.due("drop(38) of 39", y.drop(38), 38);
        t.due("drop(0) of 38", y.drop(0), 37);
        t.due("machines stay", y.states(2), 1);
    }

    private static void dropNone() {
        t.of(6, "NONE: there is none.");
        for (int k : Bounds.beyond(0, 3)) {
            t.changesNothing("drop(" + k + ") of 4", Bounds::full, x -> x.drop(k), -1);
        }
        t.changesNothing("drop(0) of none", Folder::new, x -> x.drop(0), -1);
        t.changesNothing("drop(40) of 40", () -> Bounds.withExamples(40), x -> x.drop(40), -1);
    }

    private static void which() {
        t.of(7, "Of EXAMPLE k (by ORDER): 0 its NODE, 1 whether it is IN (1) or NOT (0), 2 how many LETTERS it has, 3 the NAME of the STATE "
            + "its NODE is in.");
        // nodes: 0 empty, 1 a, 2 b, 3 ba, ..
        Folder x = Bounds.told("+ba - +baaaaaaaaa -a");
        int[][] due = {{0, 0, 0, 0}, {1, 0, 1, 1}, {3, 1, 2, 3}, {11, 1, 10, 11}};
        for (int k = 0; k < due.length; k++) {
            for (int what = 0; what <= 3; what++) {
                t.due("which(" + k + ", " + what + ")", x.which(k, what), due[k][what]);
            }
        }
        x.merge(11, 3);
        t.due("which(3, 3) then", x.which(3, 3), 3);
        t.due("which(3, 0) then", x.which(3, 0), 11);
        Folder y = Bounds.withExamples(40);
        t.due("which(39, 0)", y.which(39, 0), 39);
        t.due("which(39, 2)", y.which(39, 2), 5);
        t.of(7, "-2 for others.");
        for (int what = 0; what <= 3; what++) {
            int one = what;
            for (int k : Bounds.beyond(0, 3)) {
                t.due("which(" + k + ", " + what + ")", x.which(k, what), -2);
            }
            t.changesNothing("which(4, " + what + ") of 4", Bounds::full, f -> f.which(4, one), -2);
            t.due("which(40, " + what + ") of 40", y.which(40, what), -2);
            t.due("which(0, " + what + ") of none", new Folder().which(0, what), -2);
        }
        for (int what : Bounds.beyond(0, 3)) {
            t.due("which(0, " + what + ")", x.which(0, what), -2);
            t.due("which(3, " + what + ")", x.which(3, what), -2);
        }
    }

    private static void is() {
        t.of(8, "0 LETTERS, 1 EXAMPLES, 2 such as are IN, 3 NODES, 4 STATES now, 5 RED ones, 6 BLUE ones, 7 DEEDS, 8 bytes of the tape.");
        Folder x = Bounds.told("+ -a -b -aa");
        x.step(0);
        x.put("xyz");
        int[] due = {2, 4, 1, 4, 4, 2, 2, 1, 3};
        for (int what = 0; what < due.length; what++) {
            t.due("is(" + what + ")", x.is(what), due[what]);
        }
        Folder y = Bounds.withExamples(40);
        t.due("40 examples", y.is(1), 40);
        t.due("all IN", y.is(2), 40);
        Folder z = Bounds.withNodes(120);
        t.due("120 nodes", z.is(3), 120);
        t.due("120 states", z.is(4), 120);
        t.due("4 BLUE ones", z.is(6), 4);
        t.of(8, "NONE for others.");
        for (int what : Bounds.beyond(0, 8)) {
            t.changesNothing("is(" + what + ")", Bounds::full, f -> f.is(what), -1);
        }
    }

    private static void node() {
        t.of(9, "Of NODE k: 0 its MARK, 1 the NODE it comes behind (NONE), 2 its LETTER (0 ..; NONE), 3 how many LETTERS it has, 4 the NAME "
            + "of its STATE, 5 whether that is RED (1), BLUE (2), or neither (0).");
        Folder x = new Folder();
        x.letters(4);
        x.tell("+aab -d");
        // 0 empty, 1 a, 2 d -, 3 aa, 4 aab +
        int[][] due = {{0, -1, -1, 0, 0, 1}, {0, 0, 0, 1, 1, 2}, {2, 0, 3, 1, 2, 2}, {0, 1, 0, 2, 3, 0}, {1, 3, 1, 3, 4, 0}};
        for (int k = 0; k < due.length; k++) {
            for (int what = 0; what <= 5; what++) {
                t.due("node(" + k + ", " + what + ")", x.node(k, what), due[k][what]);
            }
        }
        Folder y = Bounds.withNodes(120);
        // the twelve words of ten letters are the last nodes, the last one of nine letters is ahead of them
        int[] last = {1, 107, 1, 10, 119, 0};
        for (int what = 0; what <= 5; what++) {
            t.due("node(119, " + what + ")", y.node(119, what), last[what]);
        }
        t.of(9, "-2 for others.");
        for (int what = 0; what <= 5; what++) {
            for (int k : Bounds.beyond(0, 4)) {
                t.due("node(" + k + ", " + what + ")", x.node(k, what), -2);
            }
            t.due("node(120, " + what + ")", y.node(120, what), -2);
            t.due("node(1, " + what + ") of one node", new Folder().node(1, what), -2);
        }
        for (int what : Bounds.beyond(0, 5)) {
            t.changesNothing("node(0, " + what + ")", Bounds::full, f -> f.node(0, what), -2);
            t.changesNothing("node(3, " + what + ")", Bounds::full, f -> f.node(3, what), -2);
        }
    }

    private static void writeNode() {
        t.of(10, "NODE k's WORD is written: how many bytes.");
        Folder x = Bounds.withNodes(120);
        t.due("writeNode(0)", x.writeNode(0), 0);
        t.due("writeNode(0)", x.written(), "");
        t.due("writeNode(119)", x.writeNode(119), 10);
        t.due("writeNode(119)", x.written(), "dcaaaabbbb");
        t.due("writeNode(1)", x.writeNode(1), 1);
        t.due("nothing is left of what was written before", x.written(), "a");
        t.due("without examples", new Folder().writeNode(0), 0);
        t.of(10, "NONE: there is none.");
        t.due("writeNode(120)", x.writeNode(120), -1);
        t.due("what was written stays", x.written(), "a");
        for (int k : Bounds.beyond(0, 3)) {
            t.changesNothing("writeNode(" + k + ")", Bounds::full, f -> f.writeNode(k), -1);
        }
        t.due("writeNode(1) of one node", new Folder().writeNode(1), -1);
    }
}
