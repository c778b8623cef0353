/** What the tests share: answers that are due, texts for the tape, what was written. */
public final class Check {
    private int wrong = 0;
    private int seen = 0;
    private String about = "";

    public void about(String what) {
        about = what;
    }

    public void due(String call, long got, long want) {
        seen++;
        if (got != want) {
            wrong++;
            System.out.println(about + ": " + call + " answered " + got + ", due is " + want);
        }
    }

    public void due(String call, boolean got, boolean want) {
        due(call, got ? 1 : 0, want ? 1 : 0);
    }

    public void due(String call, String got, String want) {
        seen++;
        if (!got.equals(want)) {
            wrong++;
            System.out.println(about + ": " + call + " wrote \"" + got + "\", due is \"" + want + "\"");
        }
    }

    /** Ends the program, with 1 if an answer was not as due. */
    public void end() {
        System.out.println(wrong == 0 ? seen + " answers are as due" : wrong + " of " + seen + " answers are not as due");
        if (wrong != 0) {
            System.exit(1);
        }
    }

    /** The tape holds this text and nothing else. */
    public static void put(WordFolder x, String text) {
        x.end(0);
        for (int at = 0; at < text.length(); at += 20) {
            int[] five = new int[5];
            for (int k = 0; k < 20 && at + k < text.length(); k++) {
                five[k / 4] |= text.charAt(at + k) << 24 - k % 4 * 8;
            }
            x.feed(five[0], five[1], five[2], five[3], five[4]);
        }
        x.end(text.length());
    }

    public static int in(WordFolder x, String word) {
        put(x, word);
        return x.example(true);
    }

    public static int not(WordFolder x, String word) {
        put(x, word);
        return x.example(false);
    }

    public static int target(WordFolder x, String text) {
        put(x, text);
        return x.target();
    }

    public static int takes(WordFolder x, int m, String word) {
        put(x, word);
        return x.takes(m);
    }

    /** All that was written latest. */
    public static String written(WordFolder x) {
        StringBuilder all = new StringBuilder();
        for (int k = 0; x.octet(k) != WordFolder.NONE; k++) {
            all.append((char) x.octet(k));
        }
        return all.toString();
    }

    public static String text(WordFolder x, int m) {
        return x.text(m) < 0 ? "none" : written(x);
    }

    public static String nodeWord(WordFolder x, int k) {
        return x.writeNode(k) < 0 ? "none" : written(x);
    }

    public static String deed(WordFolder x, int k) {
        return x.deed(k, 0) + " " + x.deed(k, 1) + " " + x.deed(k, 2) + " " + x.deed(k, 3);
    }
}
