/** What the tests by hand share: how an answer is held against the one that is due, and the small runs they begin with. */
abstract class Answers {
    static final int MIN = Integer.MIN_VALUE;
    static final int MAX = Integer.MAX_VALUE;
    static final int NONE = NoteGate.NONE;
    static final int ALL_CHECKS = 255;

    private static String about = "";
    private static int calls = 0;
    private static int wrong = 0;

    static void about(String what) {
        about = what;
    }

    static void due(String what, long got, long want) {
        calls++;
        if (got != want) {
            wrong(what + " answered " + got + ", due is " + want);
        }
    }

    static void yes(String what, boolean got) {
        due(what, got ? 1 : 0, 1);
    }

    static void no(String what, boolean got) {
        due(what, got ? 1 : 0, 0);
    }

    static void alike(String what, String got, String want) {
        calls++;
        if (!got.equals(want)) {
            wrong(what + ": got\n  " + got + "\ndue is\n  " + want);
        }
    }

    static void wrong(String what) {
        wrong++;
        System.out.println(about + ": " + what);
    }

    /** The end of a test: what it found, and by the exit code whether that is as due. */
    static void end() {
        System.out.println(wrong == 0 ? calls + " answers are as due" : wrong + " answers are not as due");
        if (wrong != 0) {
            System.exit(1);
        }
    }

    /** Houses with right clocks, not once, nothing dear; all people proved. */
    static NoteGate gate(int houses) {
        NoteGate g = new NoteGate();
        for (int i = 0; i < houses; i++) {
            g.house(0, false, 0);
        }
        for (int b = 0; b < 5; b++) {
            g.prove(b);
        }
        return g;
    }

    /** A browser asks and gets its note and its refresh: the note's number. The post must be empty. */
    static int get(NoteGate g, int browser, int house, int rights) {
        g.ask(browser, house, rights);
        g.deliver(0);
        g.deliver(0);
        return g.count(2) - 2;
    }

    /** A show that comes at once: its verdict. */
    static int shown(NoteGate g, int holder, int house, int note, int right) {
        g.show(holder, house, note, right);
        return g.deliver(g.count(4) - 1);
    }

    static void told(NoteGate g, int letter, int... want) {
        for (int what = 0; what < want.length; what++) {
            due("letter(" + letter + ", " + what + ")", g.letter(letter, what), want[what]);
        }
    }

    static void noted(NoteGate g, int note, int... want) {
        for (int what = 0; what < want.length; what++) {
            due("note(" + note + ", " + what + ")", g.note(note, what), want[what]);
        }
    }

    static void fill(NoteGate g, int slot, int width, long... numbers) {
        g.row(slot, width, numbers.length);
        for (int i = 0; i < numbers.length; i++) {
            g.write(slot, i, numbers[i]);
        }
    }
}
