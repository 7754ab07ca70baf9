import java.util.function.Supplier;

/** Calls that are refused: what they answer, and that nothing at all happens by them. */
public final class RefusedTest extends Answers {
    private interface Call {
        long on(NoteGate g);
    }

    public static void main(String[] args) {
        settings();
        settingsThatAreFull();
        people();
        keeperDown();
        posting();
        letters();
        time();
        judging();
        slots();
        reading();
        end();
    }

    /** Two objects of one run of calls, one of them with the refused call besides: they are alike in all that can be seen. */
    private static void refused(String what, Supplier<NoteGate> made, long answer, Call call) {
        NoteGate touched = made.get();
        due(what, call.on(touched), answer);
        alike(what + " left something", Whole.of(touched), Whole.of(made.get()));
    }

    private static void refused(String what, long answer, Call call) {
        refused(what, RefusedTest::busy, answer, call);
    }

    private static void refusedBoolean(String what, Supplier<NoteGate> made, Call call) {
        refused(what, made, 0, call);
    }

    private static void refusedBoolean(String what, Call call) {
        refused(what, RefusedTest::busy, 0, call);
    }

    private static long n(boolean b) {
        return b ? 1 : 0;
    }

    /** Three houses, six notes of three people, three letters, something in all slots but 3, a row that the judge told. */
    private static NoteGate busy() {
        NoteGate g = new NoteGate();
        g.house(1, false, 128);
        g.house(-2, true, 0);
        g.house(0, false, 0);
        g.terms(30, 90, 3, 7, 40, 6, 12);
        g.prove(0);
        g.prove(1);
        g.prove(4);
        g.tick(1);
        get(g, 0, 0, 255);
        g.tap(2);
        get(g, 1, 1, 3);
        get(g, 4, 0, 1);
        shown(g, 0, 0, 0, 0);
        g.end(2);
        g.hand(0, 0, 1, 1);
        g.ask(1, 0, 1);
        g.judge(0, 1, 1, 0, 2);
        fill(g, 0, 0, 5, 1);
        fill(g, 1, 3, 6, 0, 5, 1);
        g.row(2, 0, 2);
        g.script(0);
        return g;
    }

    private static NoteGate down() {
        NoteGate g = busy();
        g.keeper(false);
        return g;
    }

    private static NoteGate fullOfHouses() {
        NoteGate g = busy();
        g.house(0, false, 0);
        g.throwOut(3);
        return g;
    }

    private static NoteGate fullPost() {
        NoteGate g = busy();
        for (int i = 0; i < 9; i++) {
            g.copy(i % 3);
        }
        return g;
    }

    private static NoteGate late() {
        NoteGate g = busy();
        for (int i = 0; i < 59; i++) {
            g.tick(500);
        }
        g.tick(480);
        return g;
    }

    private static void settings() {
        about("terms: False, and nothing happens");
        int[] least = {1, 1, 0, 1, 0, 1, 0};
        int[] most = {1000, 10000, 20, 100, 1000, 100, 1000};
        for (int i = 0; i < 7; i++) {
            int[] small = {9, 9, 9, 9, 9, 9, 9};
            int[] large = small.clone();
            small[i] = least[i] - 1;
            large[i] = most[i] + 1;
            refusedBoolean("term " + i + " too small", g -> n(terms(g, small)));
            refusedBoolean("term " + i + " too large", g -> n(terms(g, large)));
        }
        about("checks");
        refused("checks(-1)", -2, g -> g.checks(-1));
        refused("checks(256)", -2, g -> g.checks(256));
        about("tap");
        refused("tap(-1)", -2, g -> g.tap(-1));
        refused("tap(512)", -2, g -> g.tap(512));
        about("house");
        refused("house(-21, ..)", -2, g -> g.house(-21, false, 0));
        refused("house(21, ..)", -2, g -> g.house(21, false, 0));
        refused("house(.., -1)", -2, g -> g.house(0, true, -1));
        refused("house(.., 256)", -2, g -> g.house(0, true, 256));
        about("throwOut");
        refusedBoolean("throwOut(-1)", g -> n(g.throwOut(-1)));
        refusedBoolean("throwOut(3)", g -> n(g.throwOut(3)));
    }

    private static boolean terms(NoteGate g, int[] t) {
        return g.terms(t[0], t[1], t[2], t[3], t[4], t[5], t[6]);
    }

    private static void settingsThatAreFull() {
        about("house");
        refused("a fifth, though one is out", RefusedTest::fullOfHouses, -3, g -> g.house(5, true, 7));
        about("throwOut");
        refusedBoolean("one that is out", RefusedTest::fullOfHouses, g -> n(g.throwOut(3)));
    }

    private static void people() {
        about("prove");
        refusedBoolean("prove(-1)", g -> n(g.prove(-1)));
        refusedBoolean("prove(5)", g -> n(g.prove(5)));
        about("leave");
        refused("leave(-1)", -2, g -> g.leave(-1));
        refused("leave(5)", -2, g -> g.leave(5));
        about("end");
        refusedBoolean("end(-1)", g -> n(g.end(-1)));
        refusedBoolean("end(3)", g -> n(g.end(3)));
        refusedBoolean("one that is ended", g -> n(g.end(2)));
    }

    private static void keeperDown() {
        about("the keeper is down");
        refusedBoolean("prove(0)", RefusedTest::down, g -> n(g.prove(0)));
        refused("leave(0)", RefusedTest::down, -3, g -> g.leave(0));
        refused("leave(5)", RefusedTest::down, -2, g -> g.leave(5));
        refusedBoolean("end(0)", RefusedTest::down, g -> n(g.end(0)));
    }

    private static void posting() {
        about("ask");
        int[][] asks = {{-1, 0, 1}, {5, 0, 1}, {0, -1, 1}, {0, 3, 1}, {0, 0, 0}, {0, 0, 256}};
        for (int[] a : asks) {
            refused("ask(" + a[0] + ", " + a[1] + ", " + a[2] + ")", -2, g -> g.ask(a[0], a[1], a[2]));
        }
        about("turn");
        int[][] turns = {{-1, 1, -2}, {5, 1, -2}, {0, -1, -2}, {0, 6, -2}, {1, 1, -3}, {0, 0, -3}, {4, 2, -3}};
        for (int[] t : turns) {
            refused("turn(" + t[0] + ", " + t[1] + ")", t[2], g -> g.turn(t[0], t[1]));
        }
        about("show");
        int[][] shows = {{-1, 0, 0, 0}, {9, 0, 0, 0}, {8, 0, 0, 0}, {0, -1, 0, 0}, {0, 3, 0, 0}, {0, 0, -1, 0}, {0, 0, 6, 0},
            {0, 0, 0, -1}, {0, 0, 0, 8}, {2, 0, 0, 0}, {6, 0, 0, 0}};
        for (int[] s : shows) {
            refusedBoolean("show(" + s[0] + ", " + s[1] + ", " + s[2] + ", " + s[3] + ")", g -> n(g.show(s[0], s[1], s[2], s[3])));
        }
        about("hand");
        int[][] hands = {{-1, 0, 1, 1}, {3, 0, 1, 1}, {0, 0, -1, 1}, {0, 0, 3, 1}, {0, 0, 0, 1}, {0, -1, 1, 1}, {0, 6, 1, 1},
            {0, 2, 1, 1}, {1, 0, 0, 1}, {0, 0, 1, 0}, {0, 0, 1, 256}};
        for (int[] h : hands) {
            refusedBoolean("hand(" + h[0] + ", " + h[1] + ", " + h[2] + ", " + h[3] + ")", g -> n(g.hand(h[0], h[1], h[2], h[3])));
        }
        about("fake");
        int[][] fakes = {{-1, 2}, {4, 2}, {5, 2}, {0, -1}, {0, 6}, {0, 0}};
        for (int[] f : fakes) {
            refusedBoolean("fake(" + f[0] + ", " + f[1] + ")", g -> n(g.fake(f[0], f[1])));
        }
    }

    private static void letters() {
        about("a letter that is none");
        for (int i : new int[] {-1, 3, MIN, MAX}) {
            refused("deliver(" + i + ")", NONE, g -> g.deliver(i));
            refusedBoolean("copy(" + i + ")", g -> n(g.copy(i)));
            refusedBoolean("lose(" + i + ")", g -> n(g.lose(i)));
        }
        about("copy: False, and nothing happens: .. the POST has 12");
        refusedBoolean("copy(0)", RefusedTest::fullPost, g -> n(g.copy(0)));
        refusedBoolean("copy(11)", RefusedTest::fullPost, g -> n(g.copy(11)));
    }

    private static void time() {
        about("tick");
        for (int i : new int[] {0, -1, 501, MIN, MAX}) {
            refused("tick(" + i + ")", -2, g -> g.tick(i));
        }
        refused("to 30,001", RefusedTest::late, -3, g -> g.tick(30001 - g.count(0)));
        refused("500 more", RefusedTest::late, -3, g -> g.tick(500));
        refused("501 more", RefusedTest::late, -2, g -> g.tick(501));
    }

    private static void judging() {
        about("judge, stops: -2, and what was told before stays");
        int[][] bad = {{-1, 0, 0, 0, 1}, {2, 0, 0, 0, 1}, {0, -1, 0, 0, 1}, {0, 3, 0, 0, 1}, {0, 0, -1, 0, 1}, {0, 0, 4, 0, 1},
            {0, 0, 0, -1, 1}, {0, 0, 0, 8, 1}, {0, 0, 0, 0, -1}, {0, 0, 0, 0, 7}, {1, -1, 0, 0, 1}, {1, 4, 0, 0, 1},
            {1, 0, -1, 0, 1}, {1, 0, 1, 0, 1}, {1, 0, 0, -1, 1}, {1, 0, 0, 8, 1}, {1, 0, 0, 0, -1}, {1, 0, 0, 0, 7}};
        for (int[] q : bad) {
            String asked = "(" + q[0] + ", " + q[1] + ", " + q[2] + ", " + q[3] + ", " + q[4] + ")";
            refused("judge" + asked, -2, g -> g.judge(q[0], q[1], q[2], q[3], q[4]));
            refused("stops" + asked, -2, g -> g.stops(q[0], q[1], q[2], q[3], q[4]));
        }
    }

    private static void slots() {
        about("row");
        int[][] rows = {{-1, 0, 1, -2}, {4, 0, 1, -2}, {0, -1, 1, -2}, {0, 4, 1, -2}, {0, 0, 61, -2}, {0, 0, -1, -3},
            {1, 2, MIN, -3}, {3, 0, -1, -3}, {3, 0, 61, -2}};
        for (int[] r : rows) {
            refused("row(" + r[0] + ", " + r[1] + ", " + r[2] + ")", r[3], g -> g.row(r[0], r[1], r[2]));
        }
        about("tear");
        for (int slot : new int[] {-1, 3, 4}) {
            refusedBoolean("tear(" + slot + ")", g -> n(g.tear(slot)));
        }
        about("write");
        int[][] writes = {{-1, 0, -2}, {4, 0, -2}, {3, 0, -5}, {0, -1, -6}, {0, 2, -6}, {2, 2, -6}};
        for (int[] w : writes) {
            refused("write(" + w[0] + ", " + w[1] + ", 1)", w[2], g -> g.write(w[0], w[1], 1L));
        }
        about("paste");
        int[][] pastes = {{-1, 0, 0, 0, 1, -2}, {0, 0, 4, 0, 1, -2}, {3, 0, 0, 0, 1, -5}, {0, 0, 3, 0, 1, -5},
            {0, 0, 1, 0, 1, -7}, {0, -1, 2, 0, 1, -6}, {0, 0, 2, -1, 1, -6}, {0, 0, 2, 0, -1, -6}, {0, 0, 2, 0, 3, -6},
            {0, 1, 2, 0, 2, -6}, {0, 0, 2, 1, 2, -6}, {0, 1, 0, 0, 2, -6}};
        for (int[] p : pastes) {
            String what = "paste(" + p[0] + ", " + p[1] + ", " + p[2] + ", " + p[3] + ", " + p[4] + ")";
            refused(what, p[5], g -> g.paste(p[0], p[1], p[2], p[3], p[4]));
        }
        about("script");
        refused("script(-1)", -2, g -> g.script(-1));
        refused("script(4)", -2, g -> g.script(4));
        refused("script(3)", -5, g -> g.script(3));
    }

    /** Calls that only tell something: the judge's look ahead is one of them, but for what found() and count(11) tell. */
    private static void reading() {
        about("calls that only tell");
        alike("reading twice", Whole.read(busy()) + Whole.read(busy()), readTwice(busy()));
        refused("stops(0, 1, 1, 0, 3)", 0, g -> g.stops(0, 1, 1, 0, 3));
        refused("longest(0, 0, 0)", 30, g -> g.longest(0, 0, 0));
        about("judge: (nothing of that happens)");
        int[][] asked = {{0, 0, 0, 0, 3}, {0, 0, 3, 0, 2}, {1, 1, 0, 0, 2}, {1, 3, 0, 0, 2}};
        for (int[] q : asked) {
            NoteGate touched = busy();
            touched.judge(q[0], q[1], q[2], q[3], q[4]);
            touched.judge(0, 1, 1, 0, 2);
            alike("judge left something", Whole.of(touched), Whole.of(busy()));
        }
    }

    private static String readTwice(NoteGate g) {
        return Whole.read(g) + Whole.read(g);
    }
}
