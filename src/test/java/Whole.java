/** All that calls tell of an object, as one text, so that two objects can be held against each other. */
final class Whole {
    private Whole() {
    }

    /** What can be read, then what a run of calls answers that brings the terms, the pairs and the slots to light. */
    static String of(NoteGate g) {
        StringBuilder b = new StringBuilder();
        read(g, b);
        goOn(g, b);
        return b.toString();
    }

    /** What can be read alone: the object stays as it is. */
    static String read(NoteGate g) {
        StringBuilder b = new StringBuilder();
        read(g, b);
        return b.toString();
    }

    private static void read(NoteGate g, StringBuilder b) {
        b.append("count");
        for (int what = 0; what <= 12; what++) { b.append(' ').append(g.count(what)); }
        for (int x = 0; x < g.count(2); x++) {
            b.append("; note ").append(x).append(':');
            for (int what = 0; what <= 10; what++) { b.append(' ').append(g.note(x, what)); }
        }
        for (int i = 0; i < g.count(4); i++) {
            b.append("; letter ").append(i).append(':');
            for (int what = 0; what <= 6; what++) { b.append(' ').append(g.letter(i, what)); }
        }
        for (int f = 0; f < g.count(3); f++) {
            b.append("; family ").append(f).append(": ").append(g.family(f, 0)).append(' ').append(g.family(f, 1));
        }
        for (int h = 0; h < g.count(1); h++) {
            b.append("; house ").append(h).append(':');
            for (int what = 0; what <= 7; what++) { b.append(' ').append(g.houseOf(h, what)); }
        }
        for (int p = 0; p <= 4; p++) {
            b.append("; browser ").append(p).append(':');
            for (int what = 0; what <= 2; what++) { b.append(' ').append(g.browser(p, what)); }
        }
        for (int i = 0; i < g.count(5); i++) {
            b.append("; log ").append(i).append(':');
            for (int what = 0; what <= 5; what++) { b.append(' ').append(g.log(i, what)); }
        }
        b.append("; found:");
        for (int i = 0; i <= 5; i++) { b.append(' ').append(g.found(i)); }
        b.append("; why ").append(g.why());
    }

    private static void goOn(NoteGate g, StringBuilder b) {
        b.append("; goes on:");
        for (int slot = 0; slot <= 3; slot++) {
            b.append(' ').append(g.script(slot)).append(' ').append(g.why()).append(' ').append(g.count(0));
        }
        b.append(' ').append(g.keeper(true)).append(' ').append(g.prove(0)).append(' ').append(g.ask(0, 0, 255));
        b.append(' ').append(g.deliver(g.count(4) - 1));
        int x = g.count(2) - 2;
        b.append(' ').append(g.note(x, 5)).append(' ').append(g.note(x + 1, 5));
        b.append(' ').append(g.longest(x, 0, 0)).append(' ').append(g.longest(x, 0, 7));
        for (int i = 0; i < 8; i++) {
            b.append(' ').append(g.tick(1)).append(' ').append(g.houseOf(0, 4)).append(' ').append(g.count(4));
        }
        b.append(' ').append(g.keeper(false)).append(' ').append(g.checks(253)).append(' ').append(g.longest(x, 0, 0));
    }
}
