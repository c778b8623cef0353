/** The bounds that the second part of "Terms" names, sentence by sentence: machines, the least one, texts and their faults. */
public final class BoundsOfTexts {
    private static final Bounds t = new Bounds();

    public static void main(String[] args) {
        machines();
        whichMachines();
        taken();
        triedWith();
        putTo();
        cannotBe();
        tries();
        ofNodesPut();
        texts();
        lettersTold();
        numbersTold();
        statesTold();
        faultOfByte();
        faultTooEarly();
        faultOf41st();
        faultOfNumber();
        t.end();
    }

    private static Folder withTarget(String text) {
        Folder x = new Folder();
        t.due("target " + text, x.target(text) > 0, true);
        return x;
    }

    private static void machines() {
        t.of("Terms", "==== II. MACHINES: STATES from 0 on (the first one where it begins), each with a MARK, for each LETTER an ARROW or "
            + "none.");
        Folder x = withTarget("-a1;+b0;?a2b2;");
        int[][] due = {{2, 1, -1}, {1, -1, 0}, {0, 2, 2}};
        for (int s = 0; s < due.length; s++) {
            for (int what = 0; what <= 2; what++) {
                t.due("state(2, " + s + ", " + what + ")", x.state(2, s, what), due[s][what]);
            }
        }
        t.due("no state -1", x.state(2, -1, 0), -2);
        t.due("no state 3", x.state(2, 3, 0), -2);
        t.due("it begins at the first one", x.takes(2, ""), 0);
        t.due("it begins at the first one", x.takes(2, "a"), 1);
        t.due("none is taken by starting at the second", x.takes(2, "b"), 0);
        Folder y = withTarget("+a1;-b0;");
        t.due("it begins at the first one", y.takes(2, ""), 1);
    }

    private static void whichMachines() {
        t.of("Terms", "0: STATES as they are now, by NAMES; 1 THE LEAST one; 2 THE TARGET; 3 one that is KEPT (1 to 3: none at first).");
        Folder x = new Folder();
        t.due("states(-1)", x.states(-1), -1);
        t.due("states(0)", x.states(0), 1);
        for (int m = 1; m <= 4; m++) {
            t.due("states(" + m + ")", x.states(m), -1);
        }
        // 0 empty, 1 a, 2 b, 3 aa +, 4 bb -
        x.tell("+aa -bb");
        t.due("0 at first", x.shown(0), "?a1b2;?a3;?b4;+;-;");
        x.merge(3, 1);
        t.due("0 as they are now, by names", x.shown(0), "?a1b2;+a1;?b3;-;");
        t.due("1 is none yet", x.states(1), -1);
        x.least();
        t.due("1", x.shown(1), "+a0b1;-b1;");
        t.due("2 is none yet", x.states(2), -1);
        x.target("-;-;-;-;-;");
        t.due("2", x.shown(2), "-;-;-;-;-;");
        t.due("3 is none yet", x.states(3), -1);
        x.keep(0);
        t.due("3", x.shown(3), "?a1b2;+a1;?b3;-;");
        t.due("4 is none", x.states(4), -1);
    }

    private static void taken() {
        t.of("Terms", "A WORD is TAKEN by one, if its ARROWS are there and end at a STATE with MARK 1.");
        Folder x = withTarget("?a1b2;+a1;-a3;+;");
        String[] words = {"", "a", "b", "aaaaaaaaaa", "ba", "baa", "ab", "bb", "aaaaaaaaab"};
        int[] due = {0, 1, 0, 1, 1, 0, 0, 0, 0};
        for (int k = 0; k < words.length; k++) {
            t.due("takes " + words[k], x.takes(2, words[k]), due[k]);
        }
    }

    private static void triedWith() {
        t.of("Terms", "THE LEAST: TRIED with 1, 2, .. 8 STATES:");
        for (int n = 1; n <= 8; n++) {
            Folder x = row(n);
            t.due("a row that needs " + n, x.least(), n);
            t.due("its states", x.states(1), n);
        }
        t.due("a row that needs 9", row(9).least(), -2);
        t.due("a row that needs 10", row(10).least(), -2);
        t.due("no machine then", row(9).states(1), -1);
    }

    /** Over one LETTER, the WORD of n - 1 LETTERS is IN, all shorter ones are NOT: that takes n STATES. */
    private static Folder row(int n) {
        Folder x = new Folder();
        x.letters(1);
        for (int k = 0; k < n - 1; k++) {
            x.not("a".repeat(k));
        }
        x.in("a".repeat(n - 1));
        return x;
    }

    private static void putTo() {
        t.of("Terms", "NODES are put to STATES by ORDER, NODE 0 to STATE 0; each other one: has the STATE of the one it comes behind an "
            + "ARROW by its LETTER already, to that; else to STATES 0, 1, .. that are there, then to a new one (if there are fewer than "
            + "TRIED), the first one with which all goes on to the end; that ARROW is there then.");
        // 1: empty 0, a 0, aa 0 can't be; 2: empty 0, a 0, aa 0 can't be; a 1, aa 0
        leastIs("+a -aa", 2, 3 + 5, "-a1;+a0;");
        // 1: empty 0, a 0, b 0 can't be; 2: empty 0, a 0, b 0 can't be, b 1
        leastIs("-a +b", 2, 3 + 4, "-a0b1;+;");
        // 1: empty, a can't be; 2: empty, a 0 can't be, a 1, aa 0 can't be, aa 1
        leastIs("+ -a -aa", 2, 2 + 5, "+a1;-a1;");
        // 1: 2; 2: empty, a 0 can't be, a 1, aa 0, aaa (forced by 0's arrow) 1 can't be; aa 1 can't be;
        // 3: empty, a 0 can't be, a 1, aa 0, aaa 1 can't be; aa 1 can't be, aa 2, aaa 0
        leastIs("+ -a +aa +aaa", 3, 2 + 6 + 8, "+a1;-a2;+a0;");
    }

    private static void leastIs(String signed, int states, int tries, String text) {
        Folder x = Bounds.told(signed);
        t.due("least of " + signed, x.least(), states);
        t.due("tries of " + signed, x.tries(), tries);
        t.due("least of " + signed, x.shown(1), text);
    }

    private static void cannotBe() {
        t.of("Terms", "It can't be put to a STATE with the other one of MARKS 1, 2 (STATES have what MARKS were put to them).");
        leastIs("+", 1, 1, "+;");
        leastIs("+ +a +aa", 1, 3, "+a0;");
        leastIs("- -a -aa", 1, 3, "-a0;");
        leastIs("+ -a", 2, 2 + 3, "+a1;-;");
        leastIs("- +a", 2, 2 + 3, "-a1;+;");
        // what was put away again leaves no mark: state 0 had a's 1, then has aa's 2
        leastIs("+a -aa", 2, 8, "-a1;+a0;");
    }

    private static void tries() {
        t.of("Terms", "Each putting that is tried is a TRY (such as can't be, too; NODE 0's too).");
        Folder x = new Folder();
        t.due("tries ahead of any", x.tries(), 0);
        x.least();
        t.due("NODE 0's", x.tries(), 1);
        x.in("a");
        x.least();
        t.due("two nodes", x.tries(), 2);
        x.not("");
        x.least();
        t.due("such as can't be", x.tries(), 2 + 3);
    }

    private static void ofNodesPut() {
        t.of("Terms", "ARROWS, MARKS are those of NODES put.");
        t.due("without examples", least(""), "?;");
        t.due("the empty word", least("+"), "+;");
        t.due("no arrow by b", least("+ -a"), "+a1;-;");
        t.due("no arrow by a", least("+ -b"), "+b1;-;");
        t.due("a mark of a node put to it later", least("+a -b"), "+a0b1;-;");
        // 1: 5 tries; 2: 12; 3: a 0 and all forced (5), a 1 with aa 0, aa 1 and all forced (7), aa 2, aaa 0, aaaa 1
        leastIs("-aa +aaaa", 3, 5 + 12 + 15, "?a1;+a2;-a0;");
    }

    private static String least(String signed) {
        Folder x = new Folder();
        if (!signed.isEmpty()) {
            x.tell(signed);
        }
        x.least();
        return x.shown(1);
    }

    private static void texts() {
        t.of("Terms", "TEXT of a MACHINE: STATES, one behind the other: its MARK (? 0, + 1, - 2), then for each of its ARROWS, by LETTERS, "
            + "the LETTER and the number of the STATE; ; behind each STATE.");
        Folder x = new Folder();
        x.letters(4);
        for (String text : new String[] {"?;", "+;", "-;", "?a0b0c0d0;", "?d0;+a2;-b1c0;", "-c1;?;"}) {
            x.target(text);
            t.due("text(2)", x.text(2), text.length());
            t.due("text(2)", x.written(), text);
        }
        // a ring of 200 over one letter: numbers of one digit, of two, of three
        Folder y = Bounds.ring200(1);
        StringBuilder all = new StringBuilder();
        for (int s = 0; s < 200; s++) {
            all.append(s == 0 ? '+' : '-').append('a').append((s + 1) % 200).append(';');
        }
        t.due("text(3)", y.text(3), all.length());
        for (int number : new int[] {9, 10, 99, 100, 199}) {
            int at = all.indexOf("a" + number + ";");
            for (int k = at - 1; k < at + 6; k++) {
                t.due("octet(" + k + ")", y.octet(k), all.charAt(k));
            }
        }
        t.due("the last byte", y.octet(all.length() - 1), ';');
        t.due("no byte behind", y.octet(all.length()), -1);
    }

    /** The fault of a text over so many LETTERS is due at that place; NONE: it is well. */
    private static void faultIs(int letters, String text, int place) {
        Folder x = new Folder();
        x.letters(letters);
        x.target("?;");
        int states = 0;
        for (int k = 0; k < text.length(); k++) {
            states += text.charAt(k) == ';' ? 1 : 0;
        }
        t.due("target " + text, x.target(text), place == -1 ? states : -1);
        t.due("fault of " + text, x.fault(), place);
        t.due("what is told then", x.states(2), place == -1 ? states : 1);
        t.due("the tape then", x.is(8), 0);
    }

    private static void lettersTold() {
        t.of("Terms", "As told: LETTERS (of those there are) rising,");
        for (int n = 1; n <= 4; n++) {
            faultIs(n, "+" + (char) ('a' + n - 1) + "0;", -1);
            faultIs(n, "+" + (char) ('a' + n) + "0;", 1);
        }
        faultIs(4, "+`0;", 1);
        faultIs(4, "+A0;", 1);
        faultIs(4, "+a0b0c0d0;", -1);
        faultIs(4, "+a0c0;", -1);
        faultIs(4, "+b0d0;", -1);
        faultIs(4, "+a0a0;", 3);
        faultIs(4, "+d0d0;", 3);
        faultIs(4, "+b0a0;", 3);
        faultIs(4, "+d0c0;", 3);
        faultIs(4, "+a0c0b0;", 5);
        faultIs(4, "+a0b0c0d0a0;", 9);
        faultIs(4, "+a0b0c0d0e0;", 9);
    }

    private static void numbersTold() {
        t.of("Terms", "numbers of 1 or 2 digits (0 alone, or the first one not 0),");
        String behind = Bounds.lone(39);
        faultIs(1, "+a;" + behind, 2);
        faultIs(1, "+a0;" + behind, -1);
        faultIs(1, "+a1;" + behind, -1);
        faultIs(1, "+a9;" + behind, -1);
        faultIs(1, "+a10;" + behind, -1);
        faultIs(1, "+a39;" + behind, -1);
        faultIs(1, "+a00;" + behind, 3);
        faultIs(1, "+a01;" + behind, 3);
        faultIs(1, "+a09;" + behind, 3);
        faultIs(1, "+a010;" + behind, 3);
        faultIs(1, "+a100;" + behind, 4);
        faultIs(1, "+a390;" + behind, 4);
        faultIs(1, "+a/;" + behind, 2);
        faultIs(1, "+a:;" + behind, 2);
        faultIs(1, "+a1/;" + behind, 3);
        faultIs(1, "+a1:;" + behind, 3);
        faultIs(1, "+a+1;" + behind, 2);
        faultIs(1, "+a-1;" + behind, 2);
        Folder x = withTarget("+a10b9;" + Bounds.lone(39));
        t.due("two digits", x.state(2, 0, 1), 10);
        t.due("one digit", x.state(2, 0, 2), 9);
    }

    private static void statesTold() {
        t.of("Terms", "1 to 40 STATES.");
        faultIs(2, "", 0);
        faultIs(2, "+;", -1);
        faultIs(2, Bounds.lone(39), -1);
        faultIs(2, Bounds.lone(40), -1);
        faultIs(2, Bounds.lone(41), 80);
        Folder x = withTarget(Bounds.lone(40));
        t.due("states(2)", x.states(2), 40);
        t.due("the last one", x.state(2, 39, 0), 2);
        t.due("no other", x.state(2, 40, 0), -2);
        // the longest text: four arrows of two digits each
        StringBuilder longest = new StringBuilder();
        for (int s = 0; s < 40; s++) {
            longest.append("-a39b38c37d36;");
        }
        faultIs(4, longest.toString(), -1);
        faultIs(4, longest + "-", 560);
    }

    private static void faultOfByte() {
        t.of("Terms", "FAULT: the first byte with which no such text goes on");
        String[] ahead = {"", "+", "+a", "+a0", "+a1", "+a11", "+b", "+b0", "+b1", "+;", "+;-a0b"};
        String[] goOn = {"?+-", "ab;", "0123456789", "b;", "0123456789b;", "b;", "0123456789", ";", "0123456789;", "?+-", "0123456789"};
        for (int k = 0; k < ahead.length; k++) {
            for (int octet = 0; octet < 256; octet++) {
                Folder x = new Folder();
                x.target(ahead[k] + (char) octet);
                boolean isWell = goOn[k].indexOf(octet) >= 0;
                if (!isWell) {
                    t.due("fault of byte " + octet + " behind " + ahead[k], x.fault(), ahead[k].length());
                } else if (octet != ';') {
                    t.due("no fault of byte " + octet + " behind " + ahead[k], x.fault(), ahead[k].length() + 1);
                }
            }
        }
        faultIs(2, "xx", 0);
        faultIs(2, "+a0;x;y;", 4);
    }

    private static void faultTooEarly() {
        t.of("Terms", "(its length, if it ends too early;");
        String whole = "+a1b10;" + Bounds.lone(10);
        for (int n = 0; n <= whole.length(); n++) {
            boolean isWhole = n > 0 && whole.charAt(n - 1) == ';';
            // where it ends behind a STATE, the numbers of STATES not told yet are what is wrong, if there are such
            int place = !isWhole ? n : n >= whole.length() ? -1 : n < whole.length() && n == 7 ? 2 : 4;
            faultIs(2, whole.substring(0, n), place);
        }
        faultIs(2, Bounds.lone(39) + "+", 79);
        faultIs(2, Bounds.lone(39) + "+a39", 82);
    }

    private static void faultOf41st() {
        t.of("Terms", "the first byte of a 41st STATE);");
        String forty = Bounds.lone(40);
        faultIs(2, Bounds.lone(39) + "+a39;", -1);
        faultIs(2, forty + "+;", 80);
        faultIs(2, forty + "+", 80);
        faultIs(2, forty + "x", 80);
        faultIs(2, forty + ";", 80);
        faultIs(2, forty + "?a0b0;-;-;", 80);
        faultIs(2, forty + "\0", 80);
        // it goes ahead of a number that is none of a STATE told
        faultIs(2, "+a40;" + Bounds.lone(39) + "+;", 83);
    }

    private static void faultOfNumber() {
        t.of("Terms", "when all else is well, the first digit of the first number that is none of a STATE told.");
        faultIs(2, "+a0;", -1);
        faultIs(2, "+a1;", 2);
        faultIs(2, "+a1;+;", -1);
        faultIs(2, "+a2;+;", 2);
        faultIs(2, "+b2;+;", 2);
        faultIs(2, "+;+a1;", -1);
        faultIs(2, "+;+a2;", 4);
        faultIs(2, "+a9;", 2);
        faultIs(2, "+a10;", 2);
        faultIs(2, "+a99;", 2);
        faultIs(2, "+a0b10;", 4);
        faultIs(2, "+a9b9;", 2);
        faultIs(2, "+;+a0b3;+a4;", 6);
        faultIs(2, "+a0b1;+a1b2;", 10);
        for (int n = 9; n <= 11; n++) {
            faultIs(1, "+a10;" + Bounds.lone(n - 1), n > 10 ? -1 : 2);
        }
        faultIs(1, "+a39;" + Bounds.lone(38), 2);
        faultIs(1, "+a39;" + Bounds.lone(39), -1);
        faultIs(1, "+a40;" + Bounds.lone(39), 2);
        // not when something else is wrong
        faultIs(2, "+a9;x", 4);
        faultIs(2, "+a9", 3);
        faultIs(2, "+a9b", 4);
        faultIs(2, "+a99;+", 6);
    }
}
