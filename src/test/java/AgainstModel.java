import java.util.Random;

/** Runs of calls drawn by chance (from fixed seeds), answered by WordFolder and by Model: no answer may differ. */
public final class AgainstModel {
    private static final int CALLS = 512;
    private static int wrong = 0;

    private final Random dice;
    private final WordFolder one = new WordFolder();
    private final Model other = new Model();
    private final long seed;
    private int calls = 0;
    /** How large samples may grow in this run: the model is slow. */
    private final int mostNodes;

    private AgainstModel(long seed) {
        this.seed = seed;
        dice = new Random(seed);
        mostNodes = new int[] {12, 20, 40, 120}[dice.nextInt(4)];
    }

    public static void main(String[] args) {
        int runs = args.length > 0 ? Integer.parseInt(args[0]) : 250;
        int first = args.length > 1 ? Integer.parseInt(args[1]) : 0;
        for (int seed = first; seed < first + runs && wrong < 20; seed++) {
            new AgainstModel(seed).run();
        }
        System.out.println(wrong == 0 ? runs + " runs answered alike" : wrong + " answers differ");
        if (wrong != 0) {
            System.exit(1);
        }
    }

    private void same(String call, int got, int due) {
        calls++;
        if (got != due) {
            wrong++;
            System.out.println("seed " + seed + ", call " + calls + ": " + call + " answered " + got + ", due is " + due);
        }
    }

    private void run() {
        int letters = 1 + dice.nextInt(4);
        same("letters", one.letters(letters) ? 1 : 0, other.letters(letters) ? 1 : 0);
        while (calls < CALLS - 40 && wrong < 20) {
            int kind = dice.nextInt(100);
            if (kind < 22) {
                tellExample();
            } else if (kind < 30) {
                tellTarget();
            } else if (kind < 45) {
                fold();
            } else if (kind < 70) {
                askMachine();
            } else if (kind < 85) {
                ask();
            } else if (kind < 90) {
                tape();
            } else if (kind < 96) {
                think();
            } else {
                change();
            }
        }
    }

    private int small(int most) {
        return dice.nextInt(most + 3) - 1;
    }

    private String word(int most) {
        StringBuilder w = new StringBuilder();
        int n = dice.nextInt(most + 1);
        for (int k = 0; k < n; k++) {
            w.append((char) ('a' + dice.nextInt(other.is(0))));
        }
        if (dice.nextInt(30) == 0) {
            w.append((char) (dice.nextBoolean() ? 'a' + other.is(0) : dice.nextInt(256)));
        }
        return w.toString();
    }

    private void put(String text) {
        same("end(0)", one.end(0), other.end(0));
        for (int at = 0; at < text.length(); at += 20) {
            int[] five = new int[5];
            for (int k = 0; k < 20; k++) {
                int c = at + k < text.length() ? text.charAt(at + k) : dice.nextInt(256);
                five[k / 4] |= c << 24 - k % 4 * 8;
            }
            same("feed", one.feed(five[0], five[1], five[2], five[3], five[4]),
                other.feed(five[0], five[1], five[2], five[3], five[4]));
        }
        same("end", one.end(text.length()), other.end(text.length()));
    }

    private void tellExample() {
        if (other.is(3) >= mostNodes && mostNodes < 120) {
            return;
        }
        put(word(mostNodes < 40 ? 4 : 10));
        boolean in = dice.nextInt(3) > 0;
        same("example(" + in + ")", one.example(in), other.example(in));
        same("is(8)", one.is(8), other.is(8));
    }

    private void tellTarget() {
        int n = 1 + dice.nextInt(dice.nextInt(4) == 0 ? 39 : 5);
        StringBuilder t = new StringBuilder();
        for (int s = 0; s < n; s++) {
            t.append("?+-".charAt(dice.nextInt(3)));
            for (int l = 0; l < other.is(0); l++) {
                if (dice.nextInt(5) > 0) {
                    t.append((char) ('a' + l)).append(dice.nextInt(40) == 0 ? n : dice.nextInt(n));
                }
            }
            t.append(';');
        }
        if (dice.nextInt(4) == 0) {
            String signs = "?+-;abcde0123456789";
            t.setCharAt(dice.nextInt(t.length()), signs.charAt(dice.nextInt(signs.length())));
        }
        if (dice.nextInt(8) == 0) {
            t.setLength(dice.nextInt(t.length() + 1));
        }
        put(t.toString());
        same("target " + t, one.target(), other.target());
        same("fault " + t, one.fault(), other.fault());
    }

    private void fold() {
        int how = small(2);
        int i = name();
        int j = name();
        switch (dice.nextInt(6)) {
            case 0: same("score(" + how + ", " + i + ", " + j + ")", one.score(how, i, j), other.score(how, i, j)); break;
            case 1: same("merge(" + i + ", " + j + ")", one.merge(i, j), other.merge(i, j)); break;
            case 2: case 3:
                if (other.is(3) > 40) {
                    how = 0;
                }
                same("step(" + how + ")", one.step(how), other.step(how));
                break;
            case 4: same("undo", one.undo(), other.undo()); break;
            default:
                if (other.is(3) > 25) {
                    how = 0;
                }
                same("learn(" + how + ")", one.learn(how), other.learn(how));
                break;
        }
        seeStates();
    }

    /** Mostly the name of a state, sometimes none. */
    private int name() {
        int k = dice.nextInt(other.is(3));
        return dice.nextInt(10) == 0 ? k - 1 : other.node(k, 4);
    }

    private void seeStates() {
        int k = small(other.is(3));
        same("node(" + k + ", 4)", one.node(k, 4), other.node(k, 4));
        same("node(" + k + ", 5)", one.node(k, 5), other.node(k, 5));
        int what = 4 + dice.nextInt(4);
        same("is(" + what + ")", one.is(what), other.is(what));
        int d = small(other.is(7));
        what = small(3);
        same("deed(" + d + ", " + what + ")", one.deed(d, what), other.deed(d, what));
        same("text(0)", one.text(0), other.text(0));
        seeWritten();
    }

    private void seeWritten() {
        for (int n = 0; n < 4; n++) {
            int k = dice.nextInt(12) - 1;
            same("octet(" + k + ")", one.octet(k), other.octet(k));
        }
        int long1 = 0;
        while (one.octet(long1) >= 0) {
            if (one.octet(long1) != other.octet(long1)) {
                same("octet(" + long1 + ")", one.octet(long1), other.octet(long1));
            }
            long1++;
        }
        if (other.octet(long1) != -1) {
            same("octet(" + long1 + ")", one.octet(long1), other.octet(long1));
        }
    }

    private void askMachine() {
        int m = machine();
        int o = machine();
        int k = dice.nextInt(4) == 0 ? dice.nextInt(100000) : small(12);
        int how = small(2);
        String of = "(" + m + ", " + o + ", " + k + ", " + how + ")";
        switch (dice.nextInt(14)) {
            case 0: same("states" + of, one.states(m), other.states(m)); break;
            case 1: same("state" + of, one.state(m, k, o), other.state(m, k, o)); break;
            case 2: same("keep" + of, one.keep(m), other.keep(m)); break;
            case 3:
                if (dice.nextBoolean()) {
                    put(word(10));
                }
                same("takes" + of, one.takes(m), other.takes(m));
                break;
            case 4: same("words" + of, one.words(m, k), other.words(m, k)); break;
            case 5: same("apart" + of, one.apart(m, o), other.apart(m, o)); seeWritten(); break;
            case 6: same("small" + of, one.small(m), other.small(m)); break;
            case 7: same("tight" + of, one.tight(m), other.tight(m)); seeKept(); break;
            case 8: same("taken" + of, one.taken(m, k), other.taken(m, k)); seeWritten(); break;
            case 9: same("wrong" + of, one.wrong(m), other.wrong(m)); break;
            case 10: case 11: same("both" + of, one.both(m, o, how), other.both(m, o, how)); seeKept(); break;
            case 12: same("useful" + of, one.useful(m), other.useful(m)); break;
            default: same("longest" + of, one.longest(m), other.longest(m)); break;
        }
    }

    private int machine() {
        return dice.nextInt(12) == 0 ? dice.nextInt(7) - 2 : dice.nextInt(4);
    }

    private void seeKept() {
        same("text(3)", one.text(3), other.text(3));
        seeWritten();
    }

    private void ask() {
        int k = small(other.is(3));
        int what = small(8);
        String of = "(" + k + ", " + what + ")";
        switch (dice.nextInt(5)) {
            case 0: same("node" + of, one.node(k, what), other.node(k, what)); break;
            case 1: same("writeNode" + of, one.writeNode(k), other.writeNode(k)); seeWritten(); break;
            case 2: same("is" + of, one.is(what), other.is(what)); break;
            case 3: same("which" + of, one.which(k, what), other.which(k, what)); break;
            default: same("deed" + of, one.deed(k, what), other.deed(k, what)); break;
        }
    }

    private void tape() {
        switch (dice.nextInt(3)) {
            case 0: {
                int n = small(other.is(8));
                same("end(" + n + ")", one.end(n), other.end(n));
                break;
            }
            case 1: {
                int a = dice.nextInt();
                same("feed", one.feed(a, -a, 1, a, 2), other.feed(a, -a, 1, a, 2));
                break;
            }
            default: same("is(8)", one.is(8), other.is(8)); break;
        }
    }

    private void think() {
        int how = small(2);
        int k = small(other.is(1));
        boolean isLarge = other.is(3) > 14;
        switch (dice.nextInt(5)) {
            case 0:
                same("least", one.least(), other.least());
                same("tries", one.tries(), other.tries());
                same("text(1)", one.text(1), other.text(1));
                seeWritten();
                break;
            case 1:
                if (!isLarge) {
                    put(word(6));
                    same("guess", one.guess(), other.guess());
                }
                break;
            case 2:
                if (!isLarge || how <= 0) {
                    same("without(" + how + ", " + k + ")", one.without(how, k), other.without(how, k));
                }
                break;
            case 3:
                if (!isLarge || how <= 0 && other.is(3) < 40) {
                    same("blind(" + how + ")", one.blind(how), other.blind(how));
                }
                break;
            default: same("tries", one.tries(), other.tries()); break;
        }
    }

    private void change() {
        switch (dice.nextInt(6)) {
            case 0: {
                int n = dice.nextInt(3) == 0 ? dice.nextInt(9) - 2 : other.is(0);
                same("letters(" + n + ")", one.letters(n) ? 1 : 0, other.letters(n) ? 1 : 0);
                break;
            }
            case 1: case 2: {
                int n = mostNodes < 40 ? small(2) : small(6);
                same("teach(" + n + ")", one.teach(n), other.teach(n));
                break;
            }
            default: {
                int k = small(other.is(1));
                same("drop(" + k + ")", one.drop(k), other.drop(k));
                break;
            }
        }
    }
}
