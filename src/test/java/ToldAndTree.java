/** Promises 1 to 10: a new object, letters, the tape, examples, nodes. */
public final class ToldAndTree {
    private static final Check c = new Check();

    public static void main(String[] args) {
        newObject();
        letters();
        feed();
        end();
        example();
        exampleLimits();
        drop();
        which();
        is();
        node();
        writeNode();
        c.end();
    }

    private static void newObject() {
        c.about("promise 1");
        WordFolder x = new WordFolder();
        int[] due = {2, 0, 0, 1, 1, 1, 0, 0, 0};
        for (int what = 0; what < due.length; what++) {
            c.due("is(" + what + ")", x.is(what), due[what]);
        }
        c.due("NONE", WordFolder.NONE, -1);
        for (int m = 1; m <= 3; m++) {
            c.due("states(" + m + ")", x.states(m), -1);
        }
        c.due("tries", x.tries(), 0);
        c.due("fault", x.fault(), -1);
        c.due("octet(0)", x.octet(0), -1);
        c.due("the state", Check.text(x, 0), "?;");
    }

    private static void letters() {
        c.about("promise 2");
        WordFolder x = new WordFolder();
        Check.in(x, "ab");
        Check.target(x, "+a0;");
        x.keep(2);
        x.least();
        for (int n : new int[] {0, 5, -1, Integer.MAX_VALUE, Integer.MIN_VALUE}) {
            c.due("letters(" + n + ")", x.letters(n), false);
        }
        c.due("is(0)", x.is(0), 2);
        c.due("is(1)", x.is(1), 1);
        c.due("states(2)", x.states(2), 1);
        x.learn(0);
        Check.put(x, "abc");
        x.text(2);
        c.due("letters(3)", x.letters(3), true);
        c.due("is(0)", x.is(0), 3);
        c.due("is(1)", x.is(1), 0);
        c.due("is(3)", x.is(3), 1);
        c.due("is(7)", x.is(7), 0);
        c.due("the tape stays", x.is(8), 3);
        c.due("what was written stays", Check.written(x), "+a0;");
        for (int m = 1; m <= 3; m++) {
            c.due("states(" + m + ")", x.states(m), -1);
        }
        c.due("c is a letter", x.example(true), 4);
        c.due("letters(3) again", x.letters(3), true);
        c.due("no examples", x.is(1), 0);
        c.due("letters(1)", x.letters(1), true);
        c.due("b is none", Check.in(x, "b"), -2);
        c.due("a is one", Check.in(x, "a"), 2);
        c.due("letters(4)", x.letters(4), true);
        c.due("d is one", Check.in(x, "d"), 2);
        c.due("e is none", Check.in(x, "e"), -2);
    }

    private static void feed() {
        c.about("promise 3");
        WordFolder x = new WordFolder();
        c.due("feed", x.feed(0x61626162, 0x61616262, 0x62000000, -1, 7), 20);
        x.end(9);
        c.due("example", x.example(true), 10);
        c.due("its word", Check.nodeWord(x, 9), "ababaabbb");
        x.feed(0, 0, 0, 0, 0x2B6130FF);
        c.due("bytes of e", x.is(8), 20);
        x.end(0);
        x.feed(0x2B6130FF, 0, 0, 0, 0);
        x.end(4);
        x.target();
        c.due("a byte above 127 is one", x.fault(), 3);
        for (int n = 20; n <= 800; n += 20) {
            c.due("feed to " + n, x.feed(1, 2, 3, 4, 5), n);
        }
        c.due("feed above 800", x.feed(1, 2, 3, 4, 5), -1);
        c.due("none came", x.is(8), 800);
        c.due("end(781)", x.end(781), 781);
        c.due("feed above 800", x.feed(1, 2, 3, 4, 5), -1);
        c.due("end(780)", x.end(780), 780);
        c.due("feed to 800", x.feed(1, 2, 3, 4, 5), 800);
    }

    private static void end() {
        c.about("promise 4");
        WordFolder x = new WordFolder();
        c.due("end(0)", x.end(0), 0);
        c.due("end(1)", x.end(1), -1);
        c.due("end(-1)", x.end(-1), -1);
        x.feed(0x61626100, 0, 0, 0, 0);
        c.due("end(21)", x.end(21), -1);
        c.due("end(MIN)", x.end(Integer.MIN_VALUE), -1);
        c.due("is(8)", x.is(8), 20);
        c.due("end(20)", x.end(20), 20);
        c.due("end(3)", x.end(3), 3);
        c.due("end(4)", x.end(4), -1);
        x.example(true);
        c.due("its first bytes", Check.nodeWord(x, 3), "aba");
    }

    private static void example() {
        c.about("promise 5");
        WordFolder x = new WordFolder();
        c.due("the empty word", x.example(false), 1);
        c.due("ab", Check.in(x, "ab"), 3);
        c.due("the tape is empty", x.is(8), 0);
        c.due("a", Check.not(x, "a"), 3);
        x.learn(0);
        int deeds = x.is(7);
        int states = x.is(4);
        c.due("alike", Check.in(x, "ab"), 3);
        c.due("deeds stay", x.is(7), deeds);
        c.due("states stay", x.is(4), states);
        c.due("told otherwise", Check.not(x, "ab"), -3);
        c.due("told otherwise", Check.in(x, ""), -3);
        c.due("the tape is empty", x.is(8), 0);
        c.due("no word", Check.in(x, "abc"), -2);
        c.due("the tape is empty", x.is(8), 0);
        c.due("no word", Check.in(x, "A"), -2);
        c.due("11 letters", Check.in(x, "aaaaaaaaaaa"), -2);
        c.due("is(1)", x.is(1), 3);
        c.due("deeds stay", x.is(7), deeds);
        c.due("10 letters", Check.in(x, "aaaaaaaaaa"), 12);
        c.due("no deeds", x.is(7), 0);
        c.due("states as at first", x.is(4), 12);
    }

    private static void exampleLimits() {
        c.about("promise 5");
        WordFolder x = new WordFolder();
        x.letters(4);
        // 21 words of up to two letters, then 19 of three
        Check.target(x, "+;");
        x.teach(2);
        c.due("is(1)", x.is(1), 21);
        String[] three = {"aaa", "aab", "aac", "aad", "aba", "abb", "abc", "abd", "aca", "acb", "acc", "acd", "ada", "adb",
            "adc", "add", "baa", "bab", "bac"};
        for (int k = 0; k < three.length; k++) {
            c.due(three[k], Check.in(x, three[k]), 22 + k);
        }
        c.due("is(1)", x.is(1), 40);
        c.due("a 41st", Check.in(x, "bad"), -4);
        c.due("nothing is done", x.is(3), 40);
        c.due("one alike", Check.in(x, "bac"), 40);
        c.due("told otherwise goes ahead", Check.not(x, "bac"), -3);
        c.due("no word goes ahead", Check.in(x, "bacx"), -2);

        WordFolder y = new WordFolder();
        y.letters(4);
        int nodes = 1;
        for (char first = 'a'; first <= 'd'; first++) {
            for (char second = 'a'; second <= 'c'; second++) {
                nodes += second == 'a' ? 10 : 9;
                c.due("long words", Check.in(y, "" + first + second + "aaaabbbb"), nodes);
            }
        }
        c.due("is(3)", y.is(3), 113);
        c.due("8 nodes more", Check.in(y, "abbaaaaaaa"), -5);
        c.due("nothing is done", y.is(3), 113);
        c.due("nothing is done", y.is(1), 12);
        c.due("one alike", Check.in(y, "aaaaaabbbb"), 113);
        c.due("7 nodes more", Check.in(y, "ababaaaaaa"), 120);
        c.due("one more", Check.in(y, "ada"), -5);
        c.due("one more", Check.in(y, "ad"), -5);
        c.due("none more", Check.not(y, "aba"), 120);
    }

    private static void drop() {
        c.about("promise 6");
        WordFolder x = new WordFolder();
        c.due("drop(0)", x.drop(0), -1);
        Check.in(x, "b");
        Check.in(x, "aab");
        Check.not(x, "a");
        x.learn(0);
        c.due("drop(-1)", x.drop(-1), -1);
        c.due("drop(3)", x.drop(3), -1);
        c.due("deeds stay", x.is(7) > 0, true);
        c.due("drop(2)", x.drop(2), 2);
        c.due("nodes", x.is(3), 3);
        c.due("no deeds", x.is(7), 0);
        c.due("states as at first", x.is(4), 3);
        c.due("drop(0)", x.drop(0), 1);
        c.due("b is left", Check.text(x, 0), "?b1;+;");
        c.due("drop(0)", x.drop(0), 0);
        c.due("nodes", x.is(3), 1);
        c.due("b may be told otherwise", Check.not(x, "b"), 2);
        // a dropped word may still be a beginning
        Check.in(x, "bb");
        c.due("drop(0)", x.drop(0), 1);
        c.due("text", Check.text(x, 0), "?b1;?b2;+;");
    }

    private static void which() {
        c.about("promise 7");
        WordFolder x = new WordFolder();
        Check.in(x, "ba");
        Check.not(x, "b");
        Check.in(x, "");
        // nodes: 0 empty, 1 b, 2 ba
        int[][] due = {{0, 1, 0, 0}, {1, 0, 1, 1}, {2, 1, 2, 2}};
        for (int k = 0; k < 3; k++) {
            for (int what = 0; what < 4; what++) {
                c.due("which(" + k + ", " + what + ")", x.which(k, what), due[k][what]);
            }
        }
        x.merge(2, 0);
        c.due("which(2, 3)", x.which(2, 3), 0);
        c.due("which(2, 0)", x.which(2, 0), 2);
        for (int[] wrong : new int[][] {{0, -1}, {0, 4}, {-1, 0}, {3, 0}, {Integer.MIN_VALUE, 1}}) {
            c.due("which(" + wrong[0] + ", " + wrong[1] + ")", x.which(wrong[0], wrong[1]), -2);
        }
    }

    private static void is() {
        c.about("promise 8");
        WordFolder x = new WordFolder();
        x.letters(3);
        Check.in(x, "a");
        Check.in(x, "b");
        Check.not(x, "cab");
        x.step(0);
        Check.put(x, "xyz");
        // the first step merges a with the empty word: 0 and 1 are one, b and c are blue
        int[] due = {3, 3, 2, 6, 5, 1, 2, 1, 3};
        for (int what = 0; what < due.length; what++) {
            c.due("is(" + what + ")", x.is(what), due[what]);
        }
        c.due("is(9)", x.is(9), -1);
        c.due("is(-1)", x.is(-1), -1);
    }

    private static void node() {
        c.about("promise 9");
        WordFolder x = new WordFolder();
        Check.in(x, "aab");
        Check.not(x, "b");
        // 0 empty, 1 a, 2 b, 3 aa, 4 aab
        int[][] due = {{0, -1, -1, 0, 0, 1}, {0, 0, 0, 1, 1, 2}, {2, 0, 1, 1, 2, 2}, {0, 1, 0, 2, 3, 0}, {1, 3, 1, 3, 4, 0}};
        for (int k = 0; k < due.length; k++) {
            for (int what = 0; what < 6; what++) {
                c.due("node(" + k + ", " + what + ")", x.node(k, what), due[k][what]);
            }
        }
        x.merge(3, 1);
        c.due("node(3, 4)", x.node(3, 4), 1);
        c.due("node(3, 5)", x.node(3, 5), 2);
        c.due("node(4, 5)", x.node(4, 5), 0);
        x.merge(1, 0);
        // the empty word, a and aa are one; so are b and aab, which fails
        c.due("node(1, 4)", x.node(1, 4), 1);
        x.merge(4, 0);
        c.due("node(4, 5)", x.node(4, 5), 1);
        for (int[] wrong : new int[][] {{0, -1}, {0, 6}, {-1, 0}, {5, 0}, {120, 4}}) {
            c.due("node(" + wrong[0] + ", " + wrong[1] + ")", x.node(wrong[0], wrong[1]), -2);
        }
    }

    private static void writeNode() {
        c.about("promise 10");
        WordFolder x = new WordFolder();
        x.letters(4);
        Check.in(x, "dcba");
        Check.in(x, "ad");
        String[] due = {"", "a", "d", "ad", "dc", "dcb", "dcba"};
        for (int k = 0; k < due.length; k++) {
            c.due("writeNode(" + k + ")", x.writeNode(k), due[k].length());
            c.due("writeNode(" + k + ")", Check.written(x), due[k]);
        }
        c.due("writeNode(7)", x.writeNode(7), -1);
        c.due("writeNode(-1)", x.writeNode(-1), -1);
        c.due("what was written stays", Check.written(x), "dcba");
    }
}
