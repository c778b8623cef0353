/** Promises 19 to 36: texts, machines, what they take, what they are set against, examples told by the target. */
public final class Machines {
    private static final Check c = new Check();
    private static final String EVEN = "+a1b0;-a0b1;";

    public static void main(String[] args) {
        target();
        fault();
        keep();
        state();
        states();
        takes();
        words();
        apart();
        small();
        tight();
        taken();
        wrong();
        both();
        bothLimit();
        useful();
        longest();
        text();
        octet();
        teach();
        teachLimits();
        c.end();
    }

    private static WordFolder with(String targetText) {
        WordFolder x = new WordFolder();
        if (Check.target(x, targetText) < 0) {
            c.due("target " + targetText, x.fault(), -1);
        }
        return x;
    }

    /** A ring of so many states of one letter, the first one in. */
    private static String ring(int many) {
        StringBuilder all = new StringBuilder();
        for (int s = 0; s < many; s++) {
            all.append(s == 0 ? '+' : '-').append('a').append((s + 1) % many).append(';');
        }
        return all.toString();
    }

    private static void target() {
        c.about("promise 19");
        WordFolder x = new WordFolder();
        c.due("target", Check.target(x, "?a1b0;-;"), 2);
        c.due("the tape is empty", x.is(8), 0);
        c.due("text", Check.text(x, 2), "?a1b0;-;");
        c.due("a fault", Check.target(x, "+;x"), -1);
        c.due("the tape is empty", x.is(8), 0);
        c.due("it stays", Check.text(x, 2), "?a1b0;-;");
        c.due("the empty tape", x.target(), -1);
        c.due("one state", Check.target(x, "+;"), 1);
        c.due("text", Check.text(x, 2), "+;");
        StringBuilder forty = new StringBuilder();
        for (int s = 0; s < 40; s++) {
            forty.append("-a39b").append(s).append(';');
        }
        c.due("forty states", Check.target(x, forty.toString()), 40);
        c.due("text", Check.text(x, 2), forty.toString());
        c.due("states and deeds are as they were", x.is(7), 0);
    }

    private static void fault() {
        c.about("promise 20");
        WordFolder x = new WordFolder();
        c.due("ahead of any", x.fault(), -1);
        StringBuilder forty = new StringBuilder();
        for (int s = 0; s < 40; s++) {
            forty.append("+;");
        }
        String[] texts = {"", "x", "+", "+a", "+a0", "+;?", "+;-a1", "++;", "+b0a0;", "+a0a0;", "+c0;", "+a;", "+a00;", "+a01;",
            "+a123;", "+a0;;", "+a1;", "+a0;-b2;", "+a9;x", "+a99b7;", "+;+a0b3;+a4;", "a0;", "+a0b0;+a1b1;", "+b0;", "?;-;+;",
            forty.toString(), forty + "+;", forty + "x", forty + "+", "+a10;", "+A0;", "+a0b;", "+a0 ;", "+a-1;", ";"};
        int[] due = {0, 0, 1, 2, 3, 3, 5, 1, 3, 3, 1, 2, 3, 3,
            4, 4, 2, 6, 4, 2, 6, 0, -1, -1, -1,
            -1, 80, 80, 80, 2, 1, 4, 3, 2, 0};
        for (int k = 0; k < texts.length; k++) {
            c.due("target " + texts[k], Check.target(x, texts[k]) < 0, due[k] >= 0);
            c.due("fault of " + texts[k], x.fault(), due[k]);
        }
        x.letters(3);
        c.due("stays", x.fault(), 0);
        c.due("c is a letter", Check.target(x, "+c0;"), 1);
        c.due("well", x.fault(), -1);
        x.letters(1);
        Check.target(x, "+b0;");
        c.due("b is none", x.fault(), 1);
    }

    private static void keep() {
        c.about("promise 21");
        WordFolder x = new WordFolder();
        for (int m : new int[] {-1, 1, 2, 3, 4}) {
            c.due("keep(" + m + ")", x.keep(m), -1);
        }
        Check.in(x, "ab");
        c.due("keep(0)", x.keep(0), 3);
        x.learn(0);
        c.due("it is as it was then", Check.text(x, 3), "?a1;?b2;+;");
        c.due("keep(3)", x.keep(3), -1);
        x.least();
        c.due("keep(1)", x.keep(1), 1);
        c.due("text", Check.text(x, 3), Check.text(x, 1));
        Check.target(x, EVEN);
        c.due("keep(2)", x.keep(2), 2);
        Check.target(x, "-;");
        c.due("it is as it was then", Check.text(x, 3), EVEN);
    }

    private static void state() {
        c.about("promise 22");
        WordFolder x = with("?b1;+a0b1;-;");
        int[][] due = {{0, -1, 1}, {1, 0, 1}, {2, -1, -1}};
        for (int s = 0; s < 3; s++) {
            for (int what = 0; what < 3; what++) {
                c.due("state(2, " + s + ", " + what + ")", x.state(2, s, what), due[s][what]);
            }
        }
        for (int[] wrong : new int[][] {{2, 3, 0}, {2, -1, 0}, {2, 0, 3}, {2, 0, -1}, {1, 0, 0}, {3, 0, 0}, {4, 0, 0}, {-1, 0, 0},
            {0, 1, 0}, {2, 0, 4}}) {
            c.due("state(" + wrong[0] + ", " + wrong[1] + ", " + wrong[2] + ")", x.state(wrong[0], wrong[1], wrong[2]), -2);
        }
        c.due("state(0, 0, 0)", x.state(0, 0, 0), 0);
        x.letters(4);
        Check.target(x, "+d0;");
        c.due("state(2, 0, 4)", x.state(2, 0, 4), 0);
        c.due("state(2, 0, 3)", x.state(2, 0, 3), -1);
        c.due("state(2, 0, 5)", x.state(2, 0, 5), -2);
        // states of the tree are numbered by names
        WordFolder y = new WordFolder();
        Check.in(y, "aa");
        Check.not(y, "bb");
        y.merge(3, 1);
        // 0 empty; 1 a and aa; 2 b; 3 aa, in 1; 4 bb: the third state is that of b
        c.due("state(0, 2, 2)", y.state(0, 2, 2), 3);
        c.due("state(0, 3, 0)", y.state(0, 3, 0), 2);
        c.due("state(0, 1, 1)", y.state(0, 1, 1), 1);
        c.due("state(0, 4, 0)", y.state(0, 4, 0), -2);
    }

    private static void states() {
        c.about("promise 23");
        WordFolder x = new WordFolder();
        c.due("states(0)", x.states(0), 1);
        for (int m : new int[] {-1, 1, 2, 3, 4, Integer.MAX_VALUE}) {
            c.due("states(" + m + ")", x.states(m), -1);
        }
        Check.not(x, "ab");
        Check.target(x, EVEN);
        x.least();
        x.keep(0);
        c.due("states(0)", x.states(0), 3);
        c.due("states(1)", x.states(1), 1);
        c.due("states(2)", x.states(2), 2);
        c.due("states(3)", x.states(3), 3);
    }

    private static void takes() {
        c.about("promise 24");
        WordFolder x = with("+a1b0;-a0;");
        String[] words = {"", "a", "aa", "baab", "ab", "abb", "bbbbbbbbbb"};
        int[] due = {1, 0, 1, 1, 0, 0, 1};
        for (int k = 0; k < words.length; k++) {
            c.due("takes " + words[k], Check.takes(x, 2, words[k]), due[k]);
            c.due("the tape is empty", x.is(8), 0);
        }
        c.due("no word", Check.takes(x, 2, "c"), -2);
        c.due("the tape is empty", x.is(8), 0);
        c.due("11 letters", Check.takes(x, 2, "bbbbbbbbbbb"), -2);
        c.due("no machine", Check.takes(x, 1, "a"), -1);
        c.due("the tape is empty", x.is(8), 0);
        c.due("no machine goes ahead", Check.takes(x, 4, "c"), -1);
        c.due("no machine", Check.takes(x, -1, ""), -1);
        c.due("without a mark", Check.takes(x, 0, ""), 0);
    }

    private static void words() {
        c.about("promise 25");
        WordFolder x = with(EVEN);
        int[] due = {1, 1, 2, 4, 8, 16, 32, 64, 128, 256, 512};
        for (int n = 0; n <= 10; n++) {
            c.due("words(2, " + n + ")", x.words(2, n), due[n]);
        }
        c.due("words(2, 11)", x.words(2, 11), -1);
        c.due("words(2, -1)", x.words(2, -1), -1);
        c.due("words(1, 0)", x.words(1, 0), -1);
        c.due("words(4, 0)", x.words(4, 0), -1);
        x.letters(4);
        Check.target(x, "+a0b0c0d0;");
        c.due("all words", x.words(2, 10), 1048576);
        Check.target(x, "?a1;+a2;-;");
        c.due("words(2, 1)", x.words(2, 1), 1);
        c.due("words(2, 2)", x.words(2, 2), 0);
    }

    private static void apart() {
        c.about("promise 26");
        WordFolder x = with(EVEN);
        c.due("apart(2, 2)", x.apart(2, 2), -2);
        c.due("apart(0, 2)", x.apart(0, 2), 0);
        c.due("the empty word", Check.written(x), "");
        x.keep(2);
        Check.target(x, "+a1b2;-a0b1;+a1b0;");
        c.due("the same words", x.apart(2, 3), -2);
        Check.target(x, "+a1b2;-a0b1;+a1b1;");
        c.due("apart(3, 2)", x.apart(3, 2), 2);
        c.due("bb", Check.written(x), "bb");
        c.due("apart(2, 3)", x.apart(2, 3), 2);
        // ab and ba tell apart: ab is the first
        Check.target(x, "-a1b2;-b3;-a3;+;");
        x.keep(2);
        Check.target(x, "-;");
        c.due("apart(2, 3)", x.apart(2, 3), 2);
        c.due("ab", Check.written(x), "ab");
        c.due("apart(3, 1)", x.apart(3, 1), -1);
        c.due("apart(1, 3)", x.apart(1, 3), -1);
        c.due("apart(4, 3)", x.apart(4, 3), -1);
        c.due("apart(3, -1)", x.apart(3, -1), -1);
        c.due("what was written stays", Check.written(x), "ab");
        x.letters(1);
        Check.target(x, ring(13));
        x.keep(2);
        Check.target(x, "+a1;" + "-a1;");
        c.due("longer than 10", x.apart(3, 2), 13);
        c.due("word", Check.written(x), "aaaaaaaaaaaaa");
        Check.target(x, ring(39));
        c.due("apart(3, 2)", x.apart(3, 2), 13);
        Check.target(x, ring(37));
        c.due("apart(2, 3)", x.apart(2, 3), 13);
        StringBuilder lastIn = new StringBuilder();
        for (int s = 0; s < 39; s++) {
            lastIn.append("?a").append(s + 1).append(';');
        }
        c.due("target", Check.target(x, lastIn + "+;"), 40);
        c.due("39 letters", x.apart(0, 2), 39);
    }

    private static void small() {
        c.about("promise 27");
        WordFolder x = with(EVEN);
        String[] texts = {EVEN, "+a1b2;-a0b1;+a1b0;", "+;", "-;", "?;", "+a0b0;", "+a0;", "+a0b0;-a0;", "?a1;+;", "?a1b2;+a1;+a2;",
            "-a1b1;-a2b2;-a0b0;", "-a1b2;+a1b1;+a1b2;+a0;"};
        int[] due = {2, 2, 2, 1, 1, 1, 2, 1, 3, 3, 1, 2};
        for (int k = 0; k < texts.length; k++) {
            c.due("target " + texts[k], Check.target(x, texts[k]) > 0, true);
            c.due("small of " + texts[k], x.small(2), due[k]);
        }
        c.due("nothing is kept", x.states(3), -1);
        c.due("small(1)", x.small(1), -1);
        c.due("small(-1)", x.small(-1), -1);
        c.due("small(4)", x.small(4), -1);
        Check.in(x, "ab");
        c.due("small(0)", x.small(0), 4);
    }

    private static void tight() {
        c.about("promise 28");
        WordFolder x = with("?a1;+;");
        c.due("tight(2)", x.tight(2), 3);
        c.due("text", Check.text(x, 3), "-a1b2;+a2b2;-a2b2;");
        c.due("the target stays", Check.text(x, 2), "?a1;+;");
        // numbers by the first word: what was 2 comes first, by a
        Check.target(x, "-a2b1;+a1b1;-a2b0;");
        c.due("tight(2)", x.tight(2), 3);
        c.due("text", Check.text(x, 3), "-a1b2;-a1b0;+a2b2;");
        c.due("tight(3)", x.tight(3), 3);
        c.due("text", Check.text(x, 3), "-a1b2;-a1b0;+a2b2;");
        Check.target(x, "+a1b2;-a0b1;+a1b0;?;");
        c.due("tight(2)", x.tight(2), 2);
        c.due("text", Check.text(x, 3), EVEN);
        c.due("tight(0)", x.tight(0), 1);
        c.due("text", Check.text(x, 3), "-a0b0;");
        c.due("tight(1)", x.tight(1), -1);
        c.due("tight(5)", x.tight(5), -1);
        c.due("tight(-1)", x.tight(-1), -1);
        c.due("it stays", Check.text(x, 3), "-a0b0;");
    }

    private static void taken() {
        c.about("promise 29");
        WordFolder x = with(EVEN);
        String[] due = {"", "b", "aa", "bb", "aab", "aba", "baa", "bbb", "aaaa"};
        for (int k = 0; k < due.length; k++) {
            c.due("taken(2, " + k + ")", x.taken(2, k), due[k].length());
            c.due("taken(2, " + k + ")", Check.written(x), due[k]);
        }
        c.due("taken(2, 1023)", x.taken(2, 1023), 10);
        c.due("the last one", Check.written(x), "bbbbbbbbbb");
        c.due("taken(2, 1024)", x.taken(2, 1024), -2);
        c.due("taken(2, MAX)", x.taken(2, Integer.MAX_VALUE), -2);
        c.due("taken(2, -1)", x.taken(2, -1), -1);
        c.due("taken(1, 0)", x.taken(1, 0), -1);
        c.due("taken(-2, 0)", x.taken(-2, 0), -1);
        c.due("what was written stays", Check.written(x), "bbbbbbbbbb");
        c.due("taken(0, 0)", x.taken(0, 0), -2);
        x.letters(4);
        Check.target(x, "+a0b0c0d0;");
        c.due("the last of all", x.taken(2, 1398100), 10);
        c.due("dddddddddd", Check.written(x), "dddddddddd");
        c.due("none more", x.taken(2, 1398101), -2);
    }

    private static void wrong() {
        c.about("promise 30");
        WordFolder x = with(EVEN);
        c.due("without examples", x.wrong(2), 0);
        Check.in(x, "");
        Check.in(x, "a");
        Check.not(x, "aa");
        Check.not(x, "ab");
        c.due("wrong(2)", x.wrong(2), 2);
        c.due("wrong(0)", x.wrong(0), 0);
        c.due("wrong(1)", x.wrong(1), -1);
        c.due("wrong(3)", x.wrong(3), -1);
        c.due("wrong(4)", x.wrong(4), -1);
        Check.target(x, "-;");
        c.due("in ones that it doesn't take", x.wrong(2), 2);
        Check.target(x, "+a0b0;");
        c.due("not ones that it takes", x.wrong(2), 2);
    }

    private static void both() {
        c.about("promise 31");
        WordFolder x = with("+a0b1;-a1b0;");
        x.keep(2);
        Check.target(x, EVEN);
        // pairs (even a, even b), by order of words: none, a, b, ab
        c.due("both(2, 3, 0)", x.both(2, 3, 0), 4);
        c.due("text", Check.text(x, 3), "+a1b2;-a0b3;-a3b0;-a2b1;");
        Check.target(x, "+a0b1;-a1b0;");
        x.keep(2);
        Check.target(x, EVEN);
        c.due("both(2, 3, 1)", x.both(2, 3, 1), 4);
        c.due("text", Check.text(x, 3), "+a1b2;+a0b3;+a3b0;-a2b1;");
        Check.target(x, "+a0b1;-a1b0;");
        x.keep(2);
        Check.target(x, EVEN);
        c.due("both(2, 3, 2)", x.both(2, 3, 2), 4);
        c.due("text", Check.text(x, 3), "-a1b2;-a0b3;+a3b0;-a2b1;");
        // one without arrows: none is a part of a pair, and of both
        Check.target(x, "?a1;+;");
        x.keep(2);
        Check.target(x, "+b0;");
        c.due("both(2, 3, 1)", x.both(2, 3, 1), 4);
        c.due("text", Check.text(x, 3), "+a1b2;+a3b3;+a3b2;-a3b3;");
        c.due("both(2, 2, 0)", x.both(2, 2, 0), 2);
        c.due("text", Check.text(x, 3), "+a1b0;-a1b1;");
        c.due("both(3, 3, 2)", x.both(3, 3, 2), 2);
        c.due("text", Check.text(x, 3), "-a1b0;-a1b1;");
        for (int[] wrong : new int[][] {{1, 2, 0}, {2, 1, 0}, {2, 2, -1}, {2, 2, 3}, {4, 2, 0}, {2, -1, 0}}) {
            c.due("both(" + wrong[0] + ", " + wrong[1] + ", " + wrong[2] + ")", x.both(wrong[0], wrong[1], wrong[2]), -1);
        }
        c.due("it stays", Check.text(x, 3), "-a1b0;-a1b1;");
    }

    private static void bothLimit() {
        c.about("promise 31");
        WordFolder x = new WordFolder();
        x.letters(1);
        Check.target(x, ring(14));
        x.keep(2);
        Check.target(x, ring(15));
        c.due("210 states", x.both(2, 3, 0), -3);
        c.due("nothing is kept", x.states(3), 14);
        c.due("wrong ways go ahead", x.both(2, 3, 3), -1);
        Check.target(x, ring(13));
        c.due("182 states", x.both(2, 3, 0), 182);
        c.due("its text", x.text(3), 1 * 4 + 9 * 4 + 90 * 5 + 82 * 6);
        c.due("small(3)", x.small(3), 182);
        Check.target(x, ring(25));
        x.keep(2);
        Check.target(x, ring(8));
        c.due("200 states", x.both(2, 3, 1), 200);
        c.due("longest(3)", x.longest(3), -3);
        c.due("useful(3)", x.useful(3), 200);
        c.due("tight(3)", x.tight(3), 200);
        Check.target(x, "+;");
        c.due("200 pairs", x.both(3, 2, 0), -3);
        c.due("apart(3, 2)", x.apart(3, 2), 8);
        Check.target(x, ring(3));
        x.keep(2);
        Check.target(x, ring(23));
        c.due("69 states", x.both(2, 3, 0), 69);
        Check.target(x, ring(6));
        c.due("138 states", x.both(3, 2, 0), 138);
        Check.target(x, ring(4));
        c.due("276 states", x.both(3, 2, 0), -3);
        c.due("nothing is kept", x.states(3), 138);
    }

    private static void useful() {
        c.about("promise 32");
        WordFolder x = with(EVEN);
        String[] texts = {EVEN, "?;", "+;", "-a0b0;", "+a1;-a1;", "?a1b2;+;-a2;", "?;+a0;", "?a1;?a2;+a0;+;", "+a1;?a0b2;-;"};
        int[] due = {2, 0, 1, 0, 1, 2, 0, 3, 2};
        for (int k = 0; k < texts.length; k++) {
            Check.target(x, texts[k]);
            c.due("useful of " + texts[k], x.useful(2), due[k]);
        }
        c.due("useful(1)", x.useful(1), -1);
        c.due("useful(-1)", x.useful(-1), -1);
        c.due("useful(4)", x.useful(4), -1);
    }

    private static void longest() {
        c.about("promise 33");
        WordFolder x = with(EVEN);
        String[] texts = {EVEN, "?;", "+;", "-a0b0;", "+a1;-a1b1;", "?a1b2;+;+b1;", "?;+a0;", "?a1;?a2;+a3;-a3;", "?a1b3;?b2;+;?a1;",
            "+a1;+a0;", "-a1b0;-;", "-a1b0;+;"};
        int[] due = {-3, -2, 0, -2, 0, 2, -2, 2, 3, -3, -2, -3};
        for (int k = 0; k < texts.length; k++) {
            Check.target(x, texts[k]);
            c.due("longest of " + texts[k], x.longest(2), due[k]);
        }
        c.due("longest(1)", x.longest(1), -1);
        c.due("longest(-1)", x.longest(-1), -1);
        c.due("longest(4)", x.longest(4), -1);
        StringBuilder chain = new StringBuilder();
        for (int s = 0; s < 39; s++) {
            chain.append("-a").append(s + 1).append("b39;");
        }
        Check.target(x, chain + "+;");
        c.due("39 letters", x.longest(2), 39);
    }

    private static void text() {
        c.about("promise 34");
        WordFolder x = new WordFolder();
        c.due("text(0)", x.text(0), 2);
        c.due("text(0)", Check.written(x), "?;");
        for (int m : new int[] {-1, 1, 2, 3, 4}) {
            c.due("text(" + m + ")", x.text(m), -1);
        }
        c.due("what was written stays", Check.written(x), "?;");
        Check.in(x, "b");
        Check.not(x, "ba");
        c.due("text(0)", Check.text(x, 0), "?b1;+a2;-;");
        Check.target(x, ring(12).replace("+a1;", "+a1b11;"));
        c.due("two digits", Check.text(x, 2), "+a1b11;-a2;-a3;-a4;-a5;-a6;-a7;-a8;-a9;-a10;-a11;-a0;");
        x.letters(4);
        Check.target(x, "?a0c0d1;-b1;");
        c.due("four letters", Check.text(x, 2), "?a0c0d1;-b1;");
    }

    private static void octet() {
        c.about("promise 35");
        WordFolder x = with("+a0;");
        c.due("nothing was written", x.octet(0), -1);
        x.text(2);
        int[] due = {'+', 'a', '0', ';', -1};
        for (int k = 0; k < due.length; k++) {
            c.due("octet(" + k + ")", x.octet(k), due[k]);
        }
        c.due("octet(-1)", x.octet(-1), -1);
        c.due("octet(MAX)", x.octet(Integer.MAX_VALUE), -1);
        x.writeNode(0);
        c.due("an empty word was written", x.octet(0), -1);
    }

    private static void teach() {
        c.about("promise 36");
        WordFolder x = new WordFolder();
        c.due("without the target", x.teach(1), -1);
        Check.target(x, EVEN);
        c.due("teach(6)", x.teach(6), -1);
        c.due("teach(-1)", x.teach(-1), -1);
        c.due("teach(0)", x.teach(0), 1);
        c.due("the empty word is in", x.which(0, 1), 1);
        Check.in(x, "a");
        c.due("teach(2)", x.teach(2), 5);
        int[] in = {1, 1, 1, 1, 0, 0, 1};
        for (int k = 0; k < in.length; k++) {
            c.due("which(" + k + ", 1)", x.which(k, 1), in[k]);
        }
        c.due("wrong is what was told", x.wrong(2), 1);
        x.learn(0);
        c.due("none more", x.teach(2), 0);
        c.due("deeds stay", x.is(7) > 0, true);
        c.due("one more length", x.teach(3), 8);
        c.due("no deeds", x.is(7), 0);
        x.letters(1);
        Check.target(x, "-a1;+a0;");
        c.due("one letter", x.teach(5), 6);
        c.due("odd ones are in", x.is(2), 3);
    }

    private static void teachLimits() {
        c.about("promise 36");
        WordFolder x = with(EVEN);
        c.due("up to forty examples", x.teach(5), 40);
        c.due("nodes", x.is(3), 40);
        c.due("none more", x.teach(5), 0);
        x.drop(3);
        c.due("the one that went", x.teach(5), 1);
        WordFolder y = new WordFolder();
        y.letters(4);
        for (char first = 'a'; first <= 'd'; first++) {
            for (char second = 'a'; second <= 'c'; second++) {
                Check.in(y, "" + first + second + "aaaabbbb");
            }
        }
        Check.target(y, "-;");
        // 113 nodes hold the empty word, 4 of one letter, and all of two but ad, bd, cd, dd: 117 nodes then
        c.due("teach(2)", y.teach(2), 21);
        c.due("nodes", y.is(3), 117);
        // aaa is a node, aab, aac, aad are not, and aba is one; then abb has no room
        c.due("till one is refused", y.teach(3), 5);
        c.due("nodes", y.is(3), 120);
        c.due("examples", y.is(1), 38);
    }
}
