/** What the tests of single sentences share: the sentence that is tested, refused calls, arguments far out. */
public final class Bounds {
    static final int MIN = Integer.MIN_VALUE;
    static final int MAX = Integer.MAX_VALUE;

    /** One call, or some. */
    interface Call {
        int on(Folder x);
    }

    private final Check c = new Check();

    /** The sentence that is tested from here on. EverySentence looks for it in the document. */
    void of(String part, String sentence) {
        c.about(part + ", \"" + sentence + "\"");
    }

    void of(int promise, String sentence) {
        of("Promise " + promise, sentence);
    }

    void due(String call, long got, long want) {
        c.due(call, got, want);
    }

    void due(String call, boolean got, boolean want) {
        c.due(call, got, want);
    }

    void due(String call, String got, String want) {
        c.due(call, got, want);
    }

    void end() {
        c.end();
    }

    /** The call answers so, and all that later calls show is as it was ahead of it. */
    void changesNothing(String call, Shown.Made made, Call asked, int want) {
        due(call, asked.on(made.make()), want);
        sameShown(call + ": all stays", () -> {
            Folder x = made.make();
            asked.on(x);
            return x;
        }, made);
    }

    /** Two objects show the same; the first line that differs is told. */
    void sameShown(String call, Shown.Made got, Shown.Made want) {
        String[] gotLines = Shown.of(got).split("\n");
        String[] wantLines = Shown.of(want).split("\n");
        for (int k = 0; k < Math.max(gotLines.length, wantLines.length); k++) {
            String gotLine = k < gotLines.length ? gotLines[k] : "nothing";
            String wantLine = k < wantLines.length ? wantLines[k] : "nothing";
            if (!gotLine.equals(wantLine)) {
                due(call, gotLine, wantLine);
                return;
            }
        }
        due(call, gotLines.length, wantLines.length);
    }

    /** All integers below least and above most that a wrong bound, a sign or a wrap-around could let in. */
    static int[] beyond(int least, int most) {
        return new int[] {least - 1, least - 2, -1000000, MIN, MIN + 1, most + 1, most + 2, 256 + least, 65536 + least, 1000000,
            MAX - 1, MAX};
    }

    /** A new object with these EXAMPLES, each with + (IN) or - (NOT) ahead of it. */
    static Folder told(String signed) {
        Folder x = new Folder();
        x.tell(signed);
        return x;
    }

    /** EXAMPLES over one LETTER: each sign is that of the WORD with one LETTER more, from the empty one on; . is none. */
    static Folder row(String signs) {
        Folder x = new Folder();
        x.letters(1);
        for (int n = 0; n < signs.length(); n++) {
            if (signs.charAt(n) != '.') {
                x.tell(signs.charAt(n) + "a".repeat(n));
            }
        }
        return x;
    }

    /**
     * All kinds of things are there: 0 empty +, 1 a -, 2 b -, 3 aa -, of which a became RED and took in b; each MACHINE, what
     * was written, tries, a fault.
     */
    static Folder full() {
        Folder x = told("+ -a -b -aa");
        x.least();
        x.target("-a1;+b0;");
        x.both(2, 1, 1);
        x.step(0);
        x.step(0);
        x.text(2);
        x.target("+a");
        return x;
    }

    /** A ring of STATES over the LETTER a (and the same ARROWS over more LETTERS), behind a tail; the first one is IN. */
    static String lasso(int tail, int ring, int letters) {
        StringBuilder all = new StringBuilder();
        for (int s = 0; s < tail + ring; s++) {
            all.append(s == 0 ? '+' : '-');
            for (int l = 0; l < letters; l++) {
                all.append((char) ('a' + l)).append(s + 1 < tail + ring ? s + 1 : tail);
            }
            all.append(';');
        }
        return all.toString();
    }

    /** A chain of STATES over the LETTER a, the last one IN: it takes one WORD, of one LETTER fewer. */
    static String chain(int states) {
        StringBuilder all = new StringBuilder();
        for (int s = 0; s < states - 1; s++) {
            all.append("-a").append(s + 1).append(';');
        }
        return all.append("+;").toString();
    }

    /** So many STATES without ARROWS. */
    static String lone(int states) {
        return "-;".repeat(states);
    }

    /** What is KEPT is a ring of 200 STATES over so many LETTERS; THE TARGET is one of 25. */
    static Folder ring200(int letters) {
        Folder x = new Folder();
        x.letters(letters);
        x.target(lasso(0, 8, letters));
        x.keep(2);
        x.target(lasso(0, 25, letters));
        x.both(2, 3, 0);
        return x;
    }

    /** 31 to 40 EXAMPLES over two LETTERS, all IN: all WORDS of at most 4 LETTERS, then such of 5 by ORDER. */
    static Folder withExamples(int many) {
        Folder x = new Folder();
        x.target("+a0b0;");
        x.teach(4);
        for (int k = 0; k < many - 31; k++) {
            x.in(five(k));
        }
        return x;
    }

    /** The k-th WORD of 5 LETTERS. */
    static String five(int k) {
        StringBuilder word = new StringBuilder();
        for (int bit = 4; bit >= 0; bit--) {
            word.append((k >> bit & 1) == 0 ? 'a' : 'b');
        }
        return word.toString();
    }

    /**
     * 113 to 120 NODES over four LETTERS: 12 WORDS of 10 LETTERS, xyaaaabbbb with y not d; then one of up to 9 that begins
     * with abb. All are IN.
     */
    static Folder withNodes(int many) {
        Folder x = new Folder();
        x.letters(4);
        for (char first = 'a'; first <= 'd'; first++) {
            for (char second = 'a'; second <= 'c'; second++) {
                x.in("" + first + second + "aaaabbbb");
            }
        }
        if (many > 113) {
            x.in("abb" + "a".repeat(many - 114));
        }
        return x;
    }
}
