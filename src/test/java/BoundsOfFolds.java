import java.lang.reflect.Field;

/** The bounds that promises 11 to 18 and 37 to 39 name, sentence by sentence: merges, steps, deeds, the least, learning. */
public final class BoundsOfFolds {
    private static final Bounds t = new Bounds();
    /** With one EXAMPLE more, of nine LETTERS, 50000 TRIES are taken; of eight, 49999; with one of ten behind it, 50001. */
    private static final String ALMOST = "- -b +ab -ba -aaa -bab -bbb +aaaa -abaa +abbb +bbbb -aabaa -abbbb -baaba +babaa -bbaaab -bbbbbaa";
    /** 8 STATES are not enough for these, and it takes 49999, 50000 or 50001 TRIES to see that. */
    private static final String[] NOT_BY_EIGHT = {
        "- -a -aa +ab -aaa -aaaa +aaab +aabb -aaaaa -aaaaaa -aaaaaaa -aaaaaab +aaaaaaaa +aaaaabba",
        "- -a -aa -bb -aaa -aaaa -aaaaa -aaaaab -aaaaaaa +aaaaaaaa +aaaaaaab -aaaaaaaaa -aaaaaaaaaa",
        "+ -a -aa +ab -aaa -aaaa +aaab -aaaaa -aaaaaa -aaaaab +aaabab -aaaaaaa -aaaaaaaa -aaaaaaab +aaaaaaaaa"};

    public static void main(String[] args) throws ReflectiveOperationException {
        score();
        scoreOthers();
        merge();
        mergeOthers();
        step();
        stepOthers();
        twoHundredDeeds();
        learn();
        undo();
        undoNone();
        deed();
        least();
        leastNotFound();
        leastTooMany();
        leastStays();
        tries();
        without();
        guess();
        blind();
        t.end();
    }

    /** Sets how many DEEDS there are: no calls come to 200, as each leaves one STATE fewer, of 119, that is not RED. */
    private static Folder withDeeds(Folder x, int many) throws ReflectiveOperationException {
        Field learner = WordFolder.class.getDeclaredField("learner");
        learner.setAccessible(true);
        Object held = learner.get(x.inside());
        Field count = held.getClass().getDeclaredField("deedCount");
        count.setAccessible(true);
        count.setInt(held, many);
        t.due("is(7)", x.is(7), many);
        return x;
    }

    /** 0 empty, 1 a, 2 b, 3 aa +, 4 ba +, 5 bb -. */
    private static Folder six() {
        return Bounds.told("+aa +ba -bb");
    }

    private static void score() {
        t.of(11, "The SCORE by how (0 .. 2) of the MERGE of STATES with NAMES i, j.");
        Folder x = six();
        for (int how = 0; how <= 2; how++) {
            t.due("score(" + how + ", 1, 2)", x.score(how, 1, 2), how);
            t.due("score(" + how + ", 2, 1)", x.score(how, 2, 1), how);
            t.due("score(" + how + ", 0, 5)", x.score(how, 0, 5), how / 2);
            t.due("score(" + how + ", 5, 0)", x.score(how, 5, 0), how / 2);
            int by = how;
            t.changesNothing("score(" + how + ", 3, 1)", Bounds::full, f -> f.score(by, 3, 1), by > 0 ? 1 : 0);
        }
        Folder most = Bounds.withNodes(120);
        t.due("score(2, 118, 119)", most.score(2, 118, 119), 1);
        t.due("score(1, 119, 118)", most.score(1, 119, 118), 1);
        t.due("score(2, 119, 0)", most.score(2, 119, 0), 1);
        t.of(11, "-1: it FAILS;");
        for (int how = 0; how <= 2; how++) {
            t.due("score(" + how + ", 3, 5)", x.score(how, 3, 5), -1);
            t.due("score(" + how + ", 5, 4)", x.score(how, 5, 4), -1);
            // the empty one, b and bb become one, a and ba: no IN and NOT come together
            t.due("score(" + how + ", 0, 2)", x.score(how, 0, 2), how == 2 ? 3 : 0);
            int by = how;
            t.changesNothing("score(" + how + ", 0, 1)", Bounds::full, f -> f.score(by, 0, 1), -1);
        }
    }

    private static void scoreOthers() {
        t.of(11, "-2 for others, like ones.");
        Folder x = six();
        for (int how = 0; how <= 2; how++) {
            for (int k = 0; k <= 5; k++) {
                t.due("score(" + how + ", " + k + ", " + k + ")", x.score(how, k, k), -2);
            }
            for (int far : Bounds.beyond(0, 5)) {
                t.due("score(" + how + ", " + far + ", 0)", x.score(how, far, 0), -2);
                t.due("score(" + how + ", 5, " + far + ")", x.score(how, 5, far), -2);
                t.due("score(" + how + ", " + far + ", " + far + ")", x.score(how, far, far), -2);
            }
        }
        for (int how : Bounds.beyond(0, 2)) {
            t.changesNothing("score(" + how + ", 1, 3)", Bounds::full, f -> f.score(how, 1, 3), -2);
            t.changesNothing("score(" + how + ", 0, 1), which fails", Bounds::full, f -> f.score(how, 0, 1), -2);
        }
        // b is part of a's state there: no name
        t.changesNothing("score(0, 2, 0)", Bounds::full, f -> f.score(0, 2, 0), -2);
        t.changesNothing("score(0, 3, 2)", Bounds::full, f -> f.score(0, 3, 2), -2);
        t.changesNothing("score(0, 1, 2)", Bounds::full, f -> f.score(0, 1, 2), -2);
        t.due("score(0, 0, 1) of one node", new Folder().score(0, 0, 1), -2);
        t.due("score(0, 119, 120)", Bounds.withNodes(120).score(0, 119, 120), -2);
    }

    private static void merge() {
        t.of(12, "STATES with NAMES i, j are MERGED (a DEED of SCORE 0): how many STATES there are.");
        Folder x = six();
        t.due("merge(4, 3)", x.merge(4, 3), 5);
        t.due("deed", x.deedShown(0), "1 4 3 0");
        t.due("merge(1, 2)", x.merge(1, 2), 4);
        t.due("deed", x.deedShown(1), "1 1 2 0");
        t.due("merge(0, 5)", x.merge(0, 5), 3);
        t.due("merge(0, 1)", x.merge(0, 1), -1);
        t.due("merge(1, 3)", x.merge(1, 3), 2);
        t.due("text", x.shown(0), "-a1b1;+a1b0;");
        t.due("deeds", x.is(7), 4);
        Folder y = Bounds.told("+a");
        t.due("the last two", y.merge(0, 1), 1);
        Folder most = Bounds.withNodes(120);
        t.due("merge(118, 119)", most.merge(118, 119), 119);
        t.due("the name of 119", most.node(119, 4), 118);
        t.of(12, "-1: it FAILS");
        t.changesNothing("merge(3, 5)", BoundsOfFolds::six, f -> f.merge(3, 5), -1);
        t.changesNothing("merge(0, 1)", Bounds::full, f -> f.merge(0, 1), -1);
        t.changesNothing("merge(1, 0)", Bounds::full, f -> f.merge(1, 0), -1);
    }

    private static void mergeOthers() {
        t.of(12, "-2 for others, like ones;");
        for (int k = 0; k <= 3; k++) {
            int one = k;
            t.changesNothing("merge(" + k + ", " + k + ")", Bounds::full, f -> f.merge(one, one), -2);
        }
        for (int far : Bounds.beyond(0, 3)) {
            t.changesNothing("merge(" + far + ", 0)", Bounds::full, f -> f.merge(far, 0), -2);
            t.changesNothing("merge(1, " + far + ")", Bounds::full, f -> f.merge(1, far), -2);
            t.changesNothing("merge(" + far + ", " + far + ")", Bounds::full, f -> f.merge(far, far), -2);
        }
        t.changesNothing("2 is no name", Bounds::full, f -> f.merge(2, 3), -2);
        t.changesNothing("2 is no name", Bounds::full, f -> f.merge(3, 2), -2);
        t.due("merge(119, 120)", Bounds.withNodes(120).merge(119, 120), -2);
        t.due("merge(0, 1) of one node", new Folder().merge(0, 1), -2);
    }

    private static void step() {
        t.of(13, "A STEP by how: how many STATES there are.");
        int[] states = {4, 3, 2, -1};
        String[][] deeds = {{"0 1 -1 0", "1 2 1 0", "1 3 1 0"}, {"0 1 -1 0", "1 2 1 1", "1 3 1 1"}, {"0 1 -1 0", "1 2 1 1", "1 3 1 1"}};
        for (int how = 0; how <= 2; how++) {
            Folder x = Bounds.told("+ -a -b -aa");
            for (int k = 0; k < 4; k++) {
                t.due("step(" + how + ") " + k, x.step(how), states[k]);
                t.due("deeds", x.is(7), Math.min(k + 1, 3));
                if (k < 3) {
                    t.due("deed", x.deedShown(k), deeds[how][k]);
                }
            }
        }
        Folder one = Bounds.told("+a");
        t.due("the only one", one.step(2), 1);
        t.due("none is left", one.step(2), -1);
    }

    private static void stepOthers() {
        t.of(13, "-2 for others;");
        for (int how : Bounds.beyond(0, 2)) {
            t.changesNothing("step(" + how + ")", Bounds::full, f -> f.step(how), -2);
            t.changesNothing("step(" + how + ") without a BLUE one", Folder::new, f -> f.step(how), -2);
        }
        t.of(13, "-1: there is no BLUE one;");
        for (int how = 0; how <= 2; how++) {
            int by = how;
            t.changesNothing("step(" + how + ")", Folder::new, f -> f.step(by), -1);
            t.changesNothing("step(" + how + ")", BoundsOfFolds::learnt, f -> f.step(by), -1);
        }
    }

    private static Folder learnt() {
        Folder x = Bounds.told("+ -a -b -aa");
        x.learn(0);
        return x;
    }

    private static void twoHundredDeeds() throws ReflectiveOperationException {
        t.of(12, "-3: 200 DEEDS are there;");
        t.due("198 are there", withDeeds(six(), 198).merge(4, 3), 5);
        Folder x = withDeeds(six(), 199);
        t.due("199 are there", x.merge(4, 3), 5);
        t.due("deeds", x.is(7), 200);
        t.due("deed 199", x.deedShown(199), "1 4 3 0");
        t.due("200 are there", x.merge(1, 2), -3);
        t.due("nothing is done", x.is(4), 5);
        t.due("deeds", x.is(7), 200);
        t.due("undo", x.undo(), 199);
        t.due("states", x.is(4), 6);
        t.due("room for one again", x.merge(1, 2), 4);
        t.of(12, "(the first that fits).");
        Folder y = withDeeds(six(), 200);
        t.due("-2 ahead of -3: like ones", y.merge(1, 1), -2);
        t.due("-2 ahead of -3: others", y.merge(6, 1), -2);
        t.due("-3 ahead of -1", y.merge(3, 5), -3);
        t.due("a score is no deed", y.score(2, 1, 2), 2);
        t.due("a score that fails", y.score(2, 3, 5), -1);
        t.of(13, "-3: 200 DEEDS are there (the first that fits).");
        for (int how = 0; how <= 2; how++) {
            Folder z = withDeeds(six(), 199);
            t.due("199 are there", z.step(how) > 0, true);
            t.due("deeds", z.is(7), 200);
            int states = z.is(4);
            t.due("a BLUE one is left", z.is(6) > 0, true);
            t.due("200 are there", z.step(how), -3);
            t.due("nothing is done", z.is(4), states);
            t.due("deeds", z.is(7), 200);
            t.due("-2 ahead of -3", z.step(3), -2);
            t.due("-1 ahead of -3", withDeeds(learnt(), 200).step(how), -1);
            t.due("-2 ahead of -1, -3", withDeeds(learnt(), 200).step(-1), -2);
            t.due("learn begins anew", z.learn(how), six().learn(how));
        }
    }

    private static void learn() {
        t.of(14, "STATES are as at first, then STEPS by how till there is none: how many STATES there are.");
        for (int how = 0; how <= 2; how++) {
            int by = how;
            t.due("learn(" + how + ") without examples", new Folder().learn(how), 1);
            t.due("learn(" + how + ") with the empty word", Bounds.told("-").learn(how), 1);
            t.due("learn(" + how + ") of full()", Bounds.full().learn(how), 2);
            // nothing of what was done before stays, and it comes to what the steps come to
            t.sameShown("learn(" + how + ") behind other deeds", () -> {
                Folder x = six();
                x.merge(0, 5);
                x.step(2);
                x.learn(by);
                return x;
            }, () -> stepped(six(), by));
            t.sameShown("learn(" + how + ") of 120 nodes", () -> {
                Folder x = Bounds.withNodes(120);
                x.not("abbaa");
                x.learn(by);
                return x;
            }, () -> {
                Folder x = Bounds.withNodes(120);
                x.not("abbaa");
                return stepped(x, by);
            });
            t.sameShown("learn(" + how + ") of 40 examples", () -> {
                Folder x = Bounds.withExamples(39);
                x.not(Bounds.five(20));
                x.learn(by);
                return x;
            }, () -> {
                Folder x = Bounds.withExamples(39);
                x.not(Bounds.five(20));
                return stepped(x, by);
            });
        }
        t.of(14, "-2 for others.");
        for (int how : Bounds.beyond(0, 2)) {
            t.changesNothing("learn(" + how + ")", Bounds::full, f -> f.learn(how), -2);
        }
    }

    private static Folder stepped(Folder x, int how) {
        int steps = 0;
        while (x.step(how) >= 0 && steps < 200) {
            steps++;
        }
        t.due("no BLUE one is left", x.is(6), 0);
        return x;
    }

    private static void undo() {
        t.of(15, "The latest DEED is taken back: how many are left.");
        for (int how = 0; how <= 2; how++) {
            int by = how;
            int many = stepped(six(), how).is(7);
            for (int k = 0; k < many; k++) {
                int left = k;
                t.due("undo of deed " + k, taken(six(), how, k + 1).undo(), k);
                t.sameShown("all is as it was ahead of deed " + k, () -> {
                    Folder x = taken(six(), by, left + 1);
                    x.undo();
                    return x;
                }, () -> taken(six(), by, left));
            }
        }
        // a merge that folds nine letters deep
        t.sameShown("a deep merge", () -> {
            Folder x = Bounds.told("+aabababab +bababababa +babababab");
            t.due("merge(1, 2)", x.merge(1, 2), 11);
            x.undo();
            return x;
        }, () -> Bounds.told("+aabababab +bababababa +babababab"));
        t.due("the only one", taken(six(), 0, 1).undo(), 0);
    }

    /** So many STEPS. */
    private static Folder taken(Folder x, int how, int many) {
        for (int k = 0; k < many; k++) {
            x.step(how);
        }
        return x;
    }

    private static void undoNone() {
        t.of(15, "NONE: there is none.");
        t.changesNothing("undo() of a new object", Folder::new, Folder::undo, -1);
        t.changesNothing("undo() with examples", BoundsOfFolds::six, Folder::undo, -1);
        t.changesNothing("undo() behind as many", () -> {
            Folder x = Bounds.full();
            x.undo();
            x.undo();
            return x;
        }, Folder::undo, -1);
        t.changesNothing("undo() behind a new example", () -> {
            Folder x = Bounds.full();
            x.in("ab");
            return x;
        }, Folder::undo, -1);
        t.changesNothing("undo() behind a drop", () -> {
            Folder x = Bounds.full();
            x.drop(3);
            return x;
        }, Folder::undo, -1);
        t.changesNothing("undo() behind letters", () -> {
            Folder x = Bounds.full();
            x.letters(2);
            return x;
        }, Folder::undo, -1);
    }

    private static void deed() {
        t.of(16, "Of DEED k: 0 whether it is a MERGE (1) or one that became RED (0), 1 the NAME of the BLUE one (of merge() i), 2 of the RED "
            + "one (of merge() j; NONE), 3 the SCORE (0 of what became RED).");
        Folder x = Bounds.told("+ -a -aa -ba");
        x.step(2);
        t.due("became RED", x.deedShown(0), "0 1 -1 0");
        x.step(2);
        t.due("merged by size", x.deedShown(1), "1 2 0 2");
        x.merge(1, 3);
        t.due("merged by merge()", x.deedShown(2), "1 1 3 0");
        Folder y = Bounds.told("+ -a -aa -ba");
        y.learn(1);
        t.due("merged by evidence", y.deedShown(1), "1 2 0 1");
        Folder most = Bounds.withNodes(120);
        for (int k = 118; k >= 0; k--) {
            most.merge(k, k + 1);
        }
        t.due("deed 0 of 119", most.deedShown(0), "1 118 119 0");
        t.due("deed 118 of 119", most.deedShown(118), "1 0 1 0");
        t.of(16, "NONE - 1 for others.");
        t.due("deed 119 of 119", most.deedShown(119), "-2 -2 -2 -2");
        for (int k : Bounds.beyond(0, 2)) {
            t.due("deed " + k, x.deedShown(k), "-2 -2 -2 -2");
        }
        for (int what : Bounds.beyond(0, 3)) {
            t.changesNothing("deed(0, " + what + ")", Bounds::full, f -> f.deed(0, what), -2);
            t.changesNothing("deed(1, " + what + ")", Bounds::full, f -> f.deed(1, what), -2);
        }
        for (int what = 0; what <= 3; what++) {
            int one = what;
            t.changesNothing("deed(2, " + what + ")", Bounds::full, f -> f.deed(2, one), -2);
            t.due("deed(0, " + what + ") of none", new Folder().deed(0, what), -2);
        }
        x.undo();
        t.due("what was taken back is none", x.deedShown(2), "-2 -2 -2 -2");
    }

    private static void least() {
        t.of(17, "THE LEAST is found: how many STATES.");
        t.due("without examples", new Folder().least(), 1);
        t.due("one", Bounds.told("+").least(), 1);
        t.due("two", Bounds.told("+ -a").least(), 2);
        t.due("seven", Bounds.row("------+").least(), 7);
        Folder x = Bounds.row("-------+");
        t.due("eight", x.least(), 8);
        t.due("states(1)", x.states(1), 8);
        t.due("text", x.shown(1), "-a1;-a2;-a3;-a4;-a5;-a6;-a7;+;");
        x.drop(7);
        t.due("it stays till the next one", x.states(1), 8);
        t.due("found anew", x.least(), 1);
        t.due("states(1)", x.states(1), 1);
        Folder all = Bounds.withNodes(120);
        t.due("120 nodes, all IN", all.least(), 1);
        t.due("tries", all.tries(), 120);
        Folder changed = Bounds.full();
        changed.learn(2);
        t.due("what was merged is nothing to it", changed.least(), 2);
        t.due("nor it to that", changed.is(7), 3);
    }

    private static void leastNotFound() {
        t.of(17, "-2: not by 8;");
        Folder x = Bounds.row("--------+");
        t.due("nine are needed", x.least(), -2);
        t.due("none is there", x.states(1), -1);
        for (int k = 0; k < 2; k++) {
            Folder y = Bounds.told(NOT_BY_EIGHT[k]);
            t.due("not by 8", y.least(), -2);
            t.due("tries", y.tries(), 49999 + k);
        }
    }

    private static void leastTooMany() {
        t.of(17, "-3: a 50001st TRY (of all numbers TRIED together) would be");
        Folder x = Bounds.told(ALMOST);
        x.not("baaaabab");
        t.due("49999", x.least(), 5);
        t.due("tries", x.tries(), 49999);
        Folder y = Bounds.told(ALMOST);
        y.not("baaaababa");
        t.due("50000", y.least(), 5);
        t.due("tries", y.tries(), 50000);
        t.due("it takes the examples", y.wrong(1), 0);
        y.in("baaaababaa");
        t.due("50001", y.least(), -3);
        t.due("tries", y.tries(), 50000);
        Folder z = Bounds.told(NOT_BY_EIGHT[2]);
        t.due("50001, and not by 8", z.least(), -3);
        t.due("tries", z.tries(), 50000);
        t.due("none is there", z.states(1), -1);
    }

    private static void leastStays() {
        t.of(17, "(THE LEAST stays as it was with both).");
        Folder x = Bounds.row("--------");
        t.due("least", x.least(), 1);
        x.in("aaaaaaaa");
        t.due("not by 8", x.least(), -2);
        t.due("it stays", x.shown(1), "-a0;");
        Folder y = Bounds.told(ALMOST);
        y.not("baaaababa");
        y.least();
        String found = y.shown(1);
        y.in("baaaababaa");
        t.due("50001", y.least(), -3);
        t.due("it stays", y.shown(1), found);
        t.due("keep(1)", y.keep(1), 5);
    }

    private static void tries() {
        t.of(18, "How many TRIES the latest least() took (50000 by -3).");
        Folder x = Bounds.told("+ -a");
        x.least();
        t.due("tries", x.tries(), 5);
        t.due("asked again", x.tries(), 5);
        x.in("b");
        x.learn(1);
        x.letters(2);
        t.due("till the next one", x.tries(), 5);
        x.least();
        t.due("the next one", x.tries(), 1);
        Folder y = Bounds.told(NOT_BY_EIGHT[2]);
        y.least();
        t.due("by -3", y.tries(), 50000);
        y.letters(1);
        y.least();
        t.due("the next one", y.tries(), 1);
        Folder z = Bounds.row("--------+");
        z.least();
        t.due("by -2", z.tries() > 0 && z.tries() < 50000, true);
        t.of(18, "0 ahead of any.");
        t.due("a new object", new Folder().tries(), 0);
        Folder other = Bounds.told("+ -a");
        other.learn(0);
        other.target("+;");
        t.due("without least()", other.tries(), 0);
    }

    private static void without() {
        t.of(37, "How many STATES learn(how) would come to without EXAMPLE k (nothing stays).");
        String signed = "+aa -b +abb -bab + -ba";
        for (int how = 0; how <= 2; how++) {
            int by = how;
            for (int k = 0; k < 6; k++) {
                int one = k;
                Folder dropped = Bounds.told(signed);
                dropped.drop(k);
                t.changesNothing("without(" + how + ", " + k + ")", () -> Bounds.told(signed), f -> f.without(by, one), dropped.learn(how));
            }
            t.changesNothing("without the only one", () -> Bounds.told("+abab"), f -> f.without(by, 0), 1);
            t.changesNothing("behind deeds", Bounds::full, f -> f.without(by, 0), 1);
            t.changesNothing("behind deeds", Bounds::full, f -> f.without(by, 3), 2);
            Folder forty = Bounds.withExamples(39);
            forty.not(Bounds.five(20));
            int whole = forty.learn(how);
            t.due("without(" + how + ", 39), the only NOT one", forty.without(how, 39), 1);
            t.due("more states with it", whole > 1, true);
            t.due("deeds stay", forty.is(7) > 0, true);
        }
        t.of(37, "-2 for others.");
        for (int how = 0; how <= 2; how++) {
            int by = how;
            for (int k : Bounds.beyond(0, 3)) {
                t.changesNothing("without(" + how + ", " + k + ")", Bounds::full, f -> f.without(by, k), -2);
            }
            t.due("without(" + how + ", 0) of none", new Folder().without(how, 0), -2);
            t.due("without(" + how + ", 40) of 40", Bounds.withExamples(40).without(how, 40), -2);
        }
        for (int how : Bounds.beyond(0, 2)) {
            t.changesNothing("without(" + how + ", 0)", Bounds::full, f -> f.without(how, 0), -2);
        }
    }

    private static void guess() {
        t.of(38, "A WORD is on the tape (empty then): as bits by how (0 .. 2), whether what learn(how) would come to takes it (nothing "
            + "stays).");
        // by first +a0b1;-a0b1; by evidence +a0b1;-a1b1; by size -a1b0;+b0;
        String signed = "-bab +a -bb";
        String[] words = {"", "a", "ba", "b", "aa", "ab", "aaaaaaaaaa", "babababaaa", "bbbbbbbbbb"};
        int[] seen = new int[8];
        for (String word : words) {
            int due = 0;
            for (int how = 0; how <= 2; how++) {
                Folder x = Bounds.told(signed);
                x.learn(how);
                due |= x.takes(0, word) << how;
            }
            seen[due]++;
            t.changesNothing("guess of " + word, () -> Bounds.told(signed), f -> f.guess(word), due);
        }
        t.due("guesses of none, of all, of some", seen[0] > 0 && seen[7] > 0 && seen[3] > 0 && seen[5] > 0, true);
        t.changesNothing("behind deeds", Bounds::full, f -> f.guess(""), 7);
        t.changesNothing("behind deeds", Bounds::full, f -> f.guess("a"), 0);
        t.changesNothing("without examples", Folder::new, f -> f.guess(""), 0);
        t.due("the tape is empty", tapeBehind("ba"), 0);
        t.of(38, "-2: no WORD.");
        for (String none : new String[] {"c", "aaaaaaaaaaa", "a\0", "`", "A"}) {
            t.changesNothing("guess of " + none, Bounds::full, f -> f.guess(none), -2);
            t.due("the tape is empty", tapeBehind(none), 0);
        }
    }

    private static int tapeBehind(String text) {
        Folder x = Bounds.full();
        x.guess(text);
        return x.is(8);
    }

    private static void blind() {
        t.of(39, "How many EXAMPLES would be told right, each by what learn(how) would come to without it (nothing stays).");
        String[] samples = {"+aa -b +abb -bab + -ba", "+", "-", "+ -a +aa -aaa +b", "+a +b +ab +ba"};
        for (String signed : samples) {
            for (int how = 0; how <= 2; how++) {
                int by = how;
                t.changesNothing("blind(" + how + ") of " + signed, () -> Bounds.told(signed), f -> f.blind(by), rightOnes(signed, how));
            }
        }
        t.due("none right", rightOnes("+", 0), 0);
        t.due("all right", rightOnes("-", 0), 1);
        for (int how = 0; how <= 2; how++) {
            int by = how;
            t.changesNothing("without examples", Folder::new, f -> f.blind(by), 0);
            t.due("40 of 40", Bounds.withExamples(40).blind(how), 40);
            Folder x = Bounds.withExamples(39);
            x.not(Bounds.five(20));
            t.due("the only NOT one is told wrong", x.blind(how) < 40, true);
        }
        t.of(39, "-2 for others.");
        for (int how : Bounds.beyond(0, 2)) {
            t.changesNothing("blind(" + how + ")", Bounds::full, f -> f.blind(how), -2);
            t.changesNothing("blind(" + how + ") without examples", Folder::new, f -> f.blind(how), -2);
        }
    }

    private static int rightOnes(String signed, int how) {
        int right = 0;
        for (int k = 0; k < signed.split(" ").length; k++) {
            Folder x = Bounds.told(signed);
            int isIn = x.which(k, 1);
            x.writeNode(x.which(k, 0));
            String word = x.written();
            x.drop(k);
            x.learn(how);
            right += x.takes(0, word) == isIn ? 1 : 0;
        }
        return right;
    }
}
