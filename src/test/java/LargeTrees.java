import java.util.Random;

/** Learning over trees of up to 120 nodes, deed by deed, against Model; and without(), blind() over some of them. */
public final class LargeTrees {
    private static final Check c = new Check();

    public static void main(String[] args) {
        for (int seed = 0; seed < 16; seed++) {
            c.about("seed " + seed);
            Random dice = new Random(seed);
            WordFolder one = new WordFolder();
            Model other = new Model();
            int letters = 1 + seed % 4;
            one.letters(letters);
            other.letters(letters);
            tell(one, other, letters, dice);
            for (int how = 0; how < 3; how++) {
                learn(one, other, how);
            }
            int k = dice.nextInt(one.is(1));
            c.due("without(1, " + k + ")", one.without(1, k), other.without(1, k));
            c.due("without(2, " + k + ")", one.without(2, k), other.without(2, k));
            if (letters == 1) {
                for (int how = 0; how < 3; how++) {
                    c.due("blind(" + how + ")", one.blind(how), other.blind(how));
                }
            }
        }
        c.end();
    }

    /** Words with a number of a's that three divides are in, but for one of ten. */
    private static void tell(WordFolder one, Model other, int letters, Random dice) {
        int longest = 4 + dice.nextInt(7);
        for (int n = 0; n < 300 && one.is(1) < 40; n++) {
            int length = dice.nextInt(longest + 1);
            int[] five = new int[5];
            int many = 0;
            for (int k = 0; k < length; k++) {
                int letter = dice.nextInt(letters);
                many += letter == 0 ? 1 : 0;
                five[k / 4] |= 'a' + letter << 24 - k % 4 * 8;
            }
            boolean in = dice.nextInt(10) == 0 ? dice.nextBoolean() : many % 3 == 0;
            one.feed(five[0], five[1], five[2], five[3], five[4]);
            other.feed(five[0], five[1], five[2], five[3], five[4]);
            one.end(length);
            other.end(length);
            c.due("example", one.example(in), other.example(in));
        }
    }

    private static void learn(WordFolder one, Model other, int how) {
        c.due("learn(" + how + ")", one.learn(how), other.learn(how));
        c.due("deeds", one.is(7), other.is(7));
        for (int k = 0; k < other.is(7); k++) {
            for (int what = 0; what < 4; what++) {
                c.due("deed(" + k + ", " + what + ")", one.deed(k, what), other.deed(k, what));
            }
        }
        int length = other.text(0);
        c.due("text", one.text(0), length);
        for (int k = 0; k <= length; k++) {
            c.due("octet(" + k + ")", one.octet(k), other.octet(k));
        }
    }
}
