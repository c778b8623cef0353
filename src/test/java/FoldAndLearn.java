/** Promises 11 to 18 and 37 to 39: merges, steps, deeds, the least, what learning would come to. */
public final class FoldAndLearn {
    private static final Check c = new Check();

    public static void main(String[] args) {
        score();
        merge();
        step();
        learn();
        undo();
        deed();
        least();
        leastLimits();
        without();
        guess();
        blind();
        nothingStays();
        c.end();
    }

    /** 0 empty, 1 a, 2 b, 3 aa (in), 4 ba (in). */
    private static WordFolder twin() {
        WordFolder x = new WordFolder();
        Check.in(x, "aa");
        Check.in(x, "ba");
        return x;
    }

    /** 0 empty, 1 a (in), 2 b, 3 ba, 4 bb (not), 5 bab (not): each way comes to other states. */
    private static WordFolder three() {
        WordFolder x = new WordFolder();
        Check.not(x, "bab");
        Check.in(x, "a");
        Check.not(x, "bb");
        return x;
    }

    private static void score() {
        c.about("promise 11");
        WordFolder x = twin();
        for (int how = 0; how < 3; how++) {
            // a and b become one, and aa and ba then
            c.due("score(" + how + ", 1, 2)", x.score(how, 1, 2), how);
            c.due("score(" + how + ", 2, 1)", x.score(how, 2, 1), how);
            c.due("score(" + how + ", 3, 4)", x.score(how, 3, 4), how == 0 ? 0 : 1);
            c.due("score(" + how + ", 3, 3)", x.score(how, 3, 3), -2);
            c.due("score(" + how + ", 3, 5)", x.score(how, 3, 5), -2);
            c.due("score(" + how + ", -1, 3)", x.score(how, -1, 3), -2);
        }
        c.due("nothing stays", x.is(4), 5);
        c.due("no deed", x.is(7), 0);
        c.due("score(3, 1, 2)", x.score(3, 1, 2), -2);
        c.due("score(-1, 1, 2)", x.score(-1, 1, 2), -2);
        x.merge(1, 2);
        c.due("2 is no name now", x.score(0, 2, 0), -2);
        Check.not(x, "bba");
        // 0 empty, 1 a, 2 b, 3 aa +, 4 ba +, 5 bb, 6 bba -
        c.due("b and bb: ba and bba can't be one", x.score(1, 2, 5), -1);
        c.due("aa and bba", x.score(0, 3, 6), -1);
        c.due("nothing stays", x.is(4), 7);
        c.due("wrong ways go ahead", x.score(3, 3, 6), -2);
    }

    private static void merge() {
        c.about("promise 12");
        WordFolder x = twin();
        c.due("merge(2, 1)", x.merge(2, 1), 3);
        c.due("text", Check.text(x, 0), "?a1b1;?a2;+;");
        c.due("deed", Check.deed(x, 0), "1 2 1 0");
        c.due("merge(1, 1)", x.merge(1, 1), -2);
        c.due("merge(2, 0)", x.merge(2, 0), -2);
        c.due("merge(0, 4)", x.merge(0, 4), -2);
        c.due("merge(0, 5)", x.merge(0, 5), -2);
        c.due("merge(-1, 0)", x.merge(-1, 0), -2);
        c.due("merge(3, 0)", x.merge(3, 0), 2);
        c.due("text", Check.text(x, 0), "+a1b1;?a0;");
        c.due("reds", x.is(5), 1);
        WordFolder y = twin();
        // the empty word and a: a and aa then
        c.due("merge(0, 1)", y.merge(0, 1), 3);
        c.due("text", Check.text(y, 0), "+a0b1;?a2;+;");
        c.due("node(3, 5) is red", y.node(3, 5), 1);
        c.due("blues", y.is(6), 1);
        WordFolder z = three();
        c.due("merge(1, 4)", z.merge(1, 4), -1);
        c.due("all is as it was", Check.text(z, 0), "?a1b2;+;?a3b4;?b5;-;-;");
        c.due("no deed", z.is(7), 0);
        // the empty word and a are one; with b, bb (not) comes to them
        z.merge(1, 0);
        String then = Check.text(z, 0);
        c.due("merge(2, 0)", z.merge(2, 0), -1);
        c.due("all is as it was", Check.text(z, 0), then);
        c.due("reds as they were", z.is(5), 1);
        // with a red one
        WordFolder r = new WordFolder();
        Check.in(r, "aa");
        Check.not(r, "a");
        r.learn(0);
        c.due("text", Check.text(r, 0), "+a1;-a0;");
        Check.in(r, "b");
        r.step(0);
        c.due("a is red", r.node(1, 5), 1);
        c.due("merge of red and blue", r.merge(1, 3), -1);
        c.due("merge of red and blue", r.merge(3, 0), 3);
        c.due("reds", r.is(5), 2);
    }

    private static void step() {
        c.about("promise 13");
        for (int how = 0; how < 3; how++) {
            WordFolder x = new WordFolder();
            c.due("no blue one", x.step(how), -1);
            c.due("step(3)", x.step(3), -2);
            c.due("step(-1)", x.step(-1), -2);
        }
        WordFolder x = three();
        int[][] left = {{5, 5, 3, 2, -1}, {5, 5, 3, 2, -1}, {3, 3, 2, -1, -1}};
        for (int how = 0; how < 3; how++) {
            while (x.undo() >= 0) {
                c.due("undo", x.is(7) >= 0, true);
            }
            for (int k = 0; k < 5; k++) {
                c.due("step(" + how + ") " + k, x.step(how), left[how][k]);
            }
        }
        WordFolder y = three();
        c.due("step by size", y.step(2), 3);
        c.due("deed", Check.deed(y, 0), "1 2 0 3");
        c.due("then by first", y.step(0), 3);
        c.due("deed", Check.deed(y, 1), "0 1 -1 0");
        c.due("node(1, 5)", y.node(1, 5), 1);
        c.due("step(9)", y.step(9), -2);
        c.due("is(7)", y.is(7), 2);
        // 0 and a can be one, 0 and b can't: b becomes red by evidence, a is merged by first
        WordFolder z = new WordFolder();
        Check.in(z, "");
        Check.in(z, "a");
        Check.not(z, "b");
        z.step(1);
        c.due("red goes ahead by evidence", Check.deed(z, 0), "0 2 -1 0");
        z.undo();
        z.step(2);
        c.due("red goes ahead by size", Check.deed(z, 0), "0 2 -1 0");
        z.undo();
        z.step(0);
        c.due("the least blue by first", Check.deed(z, 0), "1 1 0 0");
    }

    private static void learn() {
        c.about("promise 14");
        WordFolder x = three();
        x.merge(2, 5);
        String[] due = {"+a0b1;-a0b1;", "+a0b1;-a1b1;", "-a1b0;+b0;"};
        for (int how = 0; how < 3; how++) {
            c.due("learn(" + how + ")", x.learn(how), 2);
            c.due("learn(" + how + ")", Check.text(x, 0), due[how]);
            c.due("no blue one is left", x.is(6), 0);
        }
        c.due("learn(3)", x.learn(3), -2);
        c.due("learn(-1)", x.learn(-1), -2);
        c.due("nothing changes", Check.text(x, 0), due[2]);
        WordFolder y = new WordFolder();
        c.due("learn without examples", y.learn(1), 1);
        c.due("no deed", y.is(7), 0);
    }

    private static void undo() {
        c.about("promise 15");
        WordFolder x = three();
        c.due("undo", x.undo(), -1);
        for (int how = 0; how < 3; how++) {
            x.learn(how);
            int many = x.is(7);
            String[] seen = new String[many];
            for (int k = many - 1; k >= 0; k--) {
                c.due("undo", x.undo(), k);
                seen[k] = shape(x);
            }
            c.due("as at first", Check.text(x, 0), "?a1b2;+;?a3b4;?b5;-;-;");
            for (int k = 0; k < many; k++) {
                c.due("before step " + k, shape(x), seen[k]);
                x.step(how);
            }
            c.due("deeds", x.is(7), many);
        }
        c.due("deed 3 is none", x.deed(3, 0), -2);
        // a merge behind what became red
        WordFolder y = new WordFolder();
        Check.in(y, "aa");
        Check.not(y, "a");
        y.step(0);
        String before = shape(y);
        c.due("merge", y.merge(0, 2), 2);
        c.due("undo", y.undo(), 1);
        c.due("as it was", shape(y), before);
        c.due("undo of what became red", y.undo(), 0);
        c.due("reds", y.is(5), 1);
        c.due("undo", y.undo(), -1);
    }

    private static String shape(WordFolder x) {
        StringBuilder all = new StringBuilder(Check.text(x, 0));
        for (int k = 0; k < x.is(3); k++) {
            all.append(' ').append(x.node(k, 4)).append('/').append(x.node(k, 5));
        }
        return all.toString();
    }

    private static void deed() {
        c.about("promise 16");
        WordFolder x = three();
        String[][] due = {{"1 1 0 0", "0 2 -1 0", "1 3 0 0", "1 4 2 0"}, {"1 1 0 0", "0 2 -1 0", "1 3 2 1", "1 4 2 0"},
            {"1 2 0 3", "0 1 -1 0", "1 5 0 1"}};
        for (int how = 0; how < 3; how++) {
            x.learn(how);
            c.due("is(7)", x.is(7), due[how].length);
            for (int k = 0; k < due[how].length; k++) {
                c.due("learn(" + how + "), deed " + k, Check.deed(x, k), due[how][k]);
            }
        }
        for (int[] wrong : new int[][] {{-1, 0}, {3, 0}, {0, -1}, {0, 4}, {200, 1}}) {
            c.due("deed(" + wrong[0] + ", " + wrong[1] + ")", x.deed(wrong[0], wrong[1]), -2);
        }
        WordFolder y = three();
        y.merge(0, 1);
        c.due("of merge() i, j", Check.deed(y, 0), "1 0 1 0");
        y.merge(5, 4);
        c.due("of merge() the score is 0", Check.deed(y, 1), "1 5 4 0");
    }

    private static void least() {
        c.about("promise 17, 18");
        WordFolder x = new WordFolder();
        c.due("tries ahead of any", x.tries(), 0);
        c.due("least", x.least(), 1);
        c.due("tries", x.tries(), 1);
        c.due("text", Check.text(x, 1), "?;");
        Check.in(x, "a");
        Check.not(x, "aa");
        c.due("the least stays", Check.text(x, 1), "?;");
        // with 1: empty to 0, a to 0, aa to 0 can't be; with 2: empty to 0, a to 0, aa can't be, a to 1, aa to 0
        c.due("least", x.least(), 2);
        c.due("tries", x.tries(), 8);
        c.due("text", Check.text(x, 1), "-a1;+a0;");
        c.due("states are as they were", x.is(4), 3);
        // with 1: 3 tries, as b can't be; with 2: empty, a to 0, b to 0 can't be, b to 1
        WordFolder y = new WordFolder();
        Check.in(y, "a");
        Check.not(y, "b");
        c.due("least", y.least(), 2);
        c.due("tries", y.tries(), 7);
        c.due("text", Check.text(y, 1), "+a0b1;-;");
        // what learning did is nothing to the least
        y.merge(2, 0);
        c.due("least", y.least(), 2);
        c.due("text", Check.text(y, 1), "+a0b1;-;");
    }

    private static void leastLimits() {
        c.about("promise 17, 18");
        WordFolder x = new WordFolder();
        x.letters(1);
        StringBuilder word = new StringBuilder();
        for (int n = 0; n < 7; n++) {
            Check.not(x, word.toString());
            word.append('a');
        }
        Check.in(x, word.toString());
        c.due("8 are enough", x.least(), 8);
        c.due("text", Check.text(x, 1), "-a1;-a2;-a3;-a4;-a5;-a6;-a7;+;");
        x.drop(7);
        Check.not(x, word.toString());
        word.append('a');
        Check.in(x, word.toString());
        c.due("not by 8", x.least(), -2);
        c.due("tries", x.tries(), triesOfChain());
        c.due("the least stays", x.states(1), 8);

        WordFolder y = new WordFolder();
        Check.in(y, "");
        c.due("least", y.least(), 1);
        manyExamples(y);
        c.due("too many tries", y.least(), -3);
        c.due("tries", y.tries(), 50000);
        c.due("the least stays", Check.text(y, 1), "+;");
        y.letters(2);
        c.due("tries stay", y.tries(), 50000);
        c.due("least", y.least(), 1);
        c.due("tries", y.tries(), 1);
    }

    /** Nodes 0 to 8 of one letter, the last one in, all others not: with an arrow back, all behind it is forced. */
    private static int triesOfChain() {
        int all = 0;
        for (int most = 1; most <= 8; most++) {
            all++;
            for (int node = 1; node <= 8 && node <= most; node++) {
                for (int to = 0; to < node; to++) {
                    // put back to a state: this node and all behind it, the last of which can't be
                    all += 8 - node + 1;
                }
                if (node < most) {
                    all++;
                }
            }
        }
        return all;
    }

    /** 40 words, in or not as by chance: no small machine tells them all. */
    private static void manyExamples(WordFolder x) {
        int chance = 12345;
        for (int n = 0; n < 120 && x.is(1) < 40; n++) {
            StringBuilder word = new StringBuilder();
            for (int k = 0; k < 5; k++) {
                chance = chance * 1103515245 + 12345;
                word.append((chance >>> 20 & 1) == 0 ? 'a' : 'b');
            }
            chance = chance * 1103515245 + 12345;
            if ((chance >>> 20 & 1) == 0) {
                Check.in(x, word.substring(0, 3 + n % 3));
            } else {
                Check.not(x, word.substring(0, 3 + n % 3));
            }
        }
    }

    private static void without() {
        c.about("promise 37");
        WordFolder x = three();
        for (int how = 0; how < 3; how++) {
            c.due("without(" + how + ", 0)", x.without(how, 0), 1);
            c.due("without(" + how + ", 1)", x.without(how, 1), 2);
            c.due("without(" + how + ", 2)", x.without(how, 2), 2);
            c.due("without(" + how + ", 3)", x.without(how, 3), -2);
            c.due("without(" + how + ", -1)", x.without(how, -1), -2);
        }
        c.due("without(3, 0)", x.without(3, 0), -2);
        c.due("without(-1, 0)", x.without(-1, 0), -2);
        WordFolder y = new WordFolder();
        c.due("without(0, 0)", y.without(0, 0), -2);
        Check.in(y, "abab");
        c.due("without the only one", y.without(1, 0), 1);
    }

    private static void guess() {
        c.about("promise 38");
        WordFolder x = three();
        String[] words = {"", "a", "ba", "b", "bbbbbbbbbb", "aa", "ab"};
        // by first +a0b1;-a0b1; by evidence +a0b1;-a1b1; by size -a1b0;+b0;
        int[] due = {3, 7, 5, 0, 0, 3, 0};
        for (int k = 0; k < words.length; k++) {
            Check.put(x, words[k]);
            c.due("guess of " + words[k], x.guess(), due[k]);
            c.due("the tape is empty", x.is(8), 0);
        }
        Check.put(x, "abc");
        c.due("no word", x.guess(), -2);
        c.due("the tape is empty", x.is(8), 0);
        Check.put(x, "bbbbbbbbbbb");
        c.due("no word", x.guess(), -2);
        WordFolder y = new WordFolder();
        c.due("guess without examples", y.guess(), 0);
    }

    private static void blind() {
        c.about("promise 39");
        WordFolder x = three();
        for (int how = 0; how < 3; how++) {
            // without a nothing is taken; bb and bab aren't taken without them
            c.due("blind(" + how + ")", x.blind(how), 2);
        }
        c.due("blind(3)", x.blind(3), -2);
        c.due("blind(-1)", x.blind(-1), -2);
        WordFolder y = new WordFolder();
        c.due("blind without examples", y.blind(0), 0);
        Check.in(y, "");
        c.due("one that is in", y.blind(0), 0);
        y.drop(0);
        Check.not(y, "");
        c.due("one that is not", y.blind(0), 1);
        WordFolder z = new WordFolder();
        Check.in(z, "");
        Check.not(z, "a");
        Check.in(z, "aa");
        Check.in(z, "b");
        c.due("blind(0)", z.blind(0), 1);
        c.due("without(0, 1)", z.without(0, 1), 1);
        c.due("without(0, 0)", z.without(0, 0), 2);
    }

    private static void nothingStays() {
        c.about("promise 37 to 39");
        WordFolder x = three();
        x.learn(2);
        x.undo();
        String before = shape(x);
        for (int how = 0; how < 3; how++) {
            x.without(how, how);
            x.blind(how);
            Check.put(x, "ab");
            x.guess();
        }
        c.due("states", shape(x), before);
        c.due("deeds", x.is(7), 2);
        c.due("examples", x.is(1), 3);
        c.due("undo", x.undo(), 1);
    }
}
