/** The document's Terms IV and promises 20 to 23: for each sentence that names an edge a test of its own. */
public final class JudgeEdgesTest extends Answers {
    private static final Document DOCUMENT = new Document();

    public static void main(String[] args) {
        moves();
        goals();
        rows();
        states();
        promise20();
        promise21();
        promise22();
        promise23();
        about("promises 20 to 23");
        DOCUMENT.unquoted(20, 23).forEach(part -> wrong("no test quotes " + part));
        end();
    }

    private static void sentence(String section, String words) {
        about(section + ": " + words);
        yes("it stands in the document", DOCUMENT.quote(section, words));
    }

    private static void term(String words) {
        sentence("Terms", words);
    }

    /** A judge's answer, how many states he came to, and the row that he told. */
    private static void judged(String what, NoteGate g, int[] asked, int states, int... row) {
        due(what, g.judge(asked[0], asked[1], asked[2], asked[3], asked[4]), row.length);
        due(what + ": states", g.count(11), states);
        for (int i = 0; i < row.length; i++) {
            due(what + ": found(" + i + ")", g.found(i), row[i]);
        }
        due(what + ": no more", g.found(row.length), NONE);
    }

    private static void none(String what, NoteGate g, int[] asked, int states) {
        due(what, g.judge(asked[0], asked[1], asked[2], asked[3], asked[4]), NONE);
        due(what + ": states", g.count(11), states);
        due(what + ": nothing found", g.found(0), NONE);
    }

    private static int[] letIn(int house, int person, int right, int n) {
        return new int[] {0, house, person, right, n};
    }

    private static int[] strange(int browser, int n) {
        return new int[] {1, browser, 0, 0, n};
    }

    private static void moves() {
        letterMoves();
        showMoves();
        showMovesAreRefused();
        turnMoves();
        turnMovesOfNothing();
        turnMoveEnds();
        turnMovePostsNothing();
        giveMoves();
        givePairs();
        tickMoves();
    }

    private static void letterMoves() {
        term("0 .. 11: that LETTER of the POST comes");
        NoteGate g = gate(1);
        int x = get(g, 4, 0, 1);
        g.checks(ALL_CHECKS - 16);
        g.fake(2, x);
        judged("the first letter", g, strange(2, 1), 1, 0);
        g.lose(0);
        for (int i = 0; i < 11; i++) {
            g.ask(0, 0, 1);
        }
        g.fake(2, x);
        due("the twelfth", g.judge(1, 2, 0, 0, 1), 1);
        due("the twelfth", g.found(0), 11);
    }

    /** 32 notes at four houses, of which the thief has the last alone: one that was handed to house 3. */
    private static NoteGate lastNoteHis() {
        NoteGate g = gate(4);
        for (int i = 0; i < 15; i++) {
            get(g, 0, 0, 1);
        }
        shown(g, 0, 0, 0, 0);
        g.hand(0, 0, 3, 1);
        g.deliver(0);
        g.deliver(0);
        g.hand(0, 0, 3, 1);
        g.tap(32);
        g.deliver(0);
        return g;
    }

    private static void showMoves() {
        term("100 + 4 x + h: the thief SHOWS NOTE x");
        NoteGate g = gate(1);
        g.tap(1);
        get(g, 0, 0, 1);
        judged("the least", g, letIn(0, 0, 0, 1), 1, 100);
        g = lastNoteHis();
        due("he has it", g.note(31, 10), 16);
        due("the most", g.judge(0, 3, 0, 0, 1), 1);
        due("the most", g.found(0), 227);
        g.checks(ALL_CHECKS - 1);
        due("at the house before", g.judge(0, 2, 0, 0, 1), 1);
        due("at the house before", g.found(0), 226);
    }

    private static void showMovesAreRefused() {
        term("which he HAS and which is no REFRESH, at HOUSE h, which is IN, for the right c, at once (HOLDER 4)");
        NoteGate g = gate(2);
        int x = get(g, 0, 0, 2);
        none("he has it not", g, letIn(0, 0, 1, 1), 2);
        g.tap(1);
        g.turn(0, x + 1);
        g.lose(0);
        g.tap(0);
        g.keeper(false);
        // the first; what he has he gives to browser 0, whose pair is gone by it; a tick
        none("a refresh that he has", g, letIn(0, 0, 1, 1), 3);
        g.tap(1);
        g.show(0, 0, x, 0);
        g.lose(0);
        judged("his", g, letIn(0, 0, 1, 1), 1, 100);
        none("another right", g, letIn(0, 0, 0, 1), 3);
        none("the last right", g, letIn(0, 0, 7, 1), 3);
        g.throwOut(1);
        judged("another is out", g, letIn(0, 0, 1, 1), 1, 100);
        g.throwOut(0);
        none("out", g, letIn(0, 0, 1, 1), 3);
    }

    /** The browser's refresh is read as it is turned, and its pair; the letter goes. Its note the thief has not. */
    private static void hisRefresh(NoteGate g, int browser, int refresh) {
        g.tap(1 << browser);
        g.turn(browser, refresh);
        g.lose(g.count(4) - 1);
        g.tap(0);
    }

    private static void turnMoves() {
        term("300 + x: he TURNS a REFRESH x which he HAS, as if TURN from 4 came");
        NoteGate g = gate(1);
        int x = get(g, 0, 0, 1);
        hisRefresh(g, 0, x + 1);
        judged("the least", g, letIn(0, 0, 0, 2), 4, 301, 108);
        g = gate(1);
        for (int i = 0; i < 15; i++) {
            x = get(g, 0, 0, 1);
        }
        hisRefresh(g, 0, x + 1);
        judged("the last with numbers for two more", g, letIn(0, 0, 0, 2), 4, 329, 220);
        g.ask(0, 0, 1);
        g.deliver(0);
        g.deliver(0);
        none("no numbers more", g, letIn(0, 0, 0, 2), 3);
    }

    private static void turnMovesOfNothing() {
        term("he TURNS a REFRESH x which he HAS");
        NoteGate g = gate(1);
        int x = get(g, 0, 0, 1);
        none("he has it not", g, letIn(0, 0, 0, 1), 2);
        hisRefresh(g, 0, x + 1);
        g.keeper(false);
        // the first; he gives it to browser 0, whose pair is gone by it; a tick
        none("the keeper is down", g, letIn(0, 0, 0, 1), 3);
        g.keeper(true);
        for (int i = 0; i < 19; i++) {
            g.tick(10);
        }
        g.tick(9);
        judged("199: below till", g, letIn(0, 0, 0, 2), 4, 301, 108);
        g.tick(1);
        none("200: till", g, letIn(0, 0, 0, 1), 3);
        g = gate(1);
        x = get(g, 0, 0, 1);
        hisRefresh(g, 0, x + 1);
        g.throwOut(0);
        none("its house is out", g, letIn(0, 0, 0, 1), 3);
        g = gate(1);
        x = get(g, 0, 0, 1);
        hisRefresh(g, 0, x + 1);
        g.end(0);
        g.deliver(0);
        none("its family is ended", g, letIn(0, 0, 0, 1), 3);
    }

    private static void turnMoveEnds() {
        term("as if TURN from 4 came");
        NoteGate g = gate(1);
        int x = get(g, 0, 0, 1);
        hisRefresh(g, 0, x + 1);
        g.turn(0, x + 1);
        g.deliver(0);
        g.deliver(0);
        due("turned", g.note(x + 1, 9), 1);
        // the first; by 301 the family is ended and an over is there; a tick
        none("turned twice", g, letIn(0, 1, 0, 1), 3);
        // besides: over comes; 301 then 600; 600 then 301; two ticks
        none("turned twice", g, letIn(0, 1, 0, 2), 7);
        g.checks(ALL_CHECKS - 32);
        judged("check 5 off", g, letIn(0, 0, 0, 2), 3, 301, 116);
    }

    private static void turnMovePostsNothing() {
        term("but HAS at once what GIVE would tell (which is not posted)");
        NoteGate g = gate(1);
        g.tap(1);
        get(g, 0, 0, 1);
        none("one move: 100, 301, 600", g, letIn(0, 1, 0, 1), 4);
        // 100 301, 100 600, 301 108, 301 301, 301 303, 301 600, 600 301, 600 600
        none("two moves: what he turned he shows, and turns the new refresh", g, letIn(0, 1, 0, 2), 12);
        g = gate(1);
        int x = get(g, 0, 0, 1);
        hisRefresh(g, 0, x + 1);
        for (int i = 0; i < 12; i++) {
            g.show(0, 0, x, 7);
        }
        due("a full post is no hindrance", g.judge(0, 0, 0, 0, 2), 2);
        due("a full post is no hindrance", g.found(0), 301);
        due("a full post is no hindrance", g.found(1), 108);
    }

    private static void giveMoves() {
        term("400 + 32 b + x: GIVE of NOTE x, which he HAS, from 4, y NONE");
        NoteGate g = gate(1);
        get(g, 4, 0, 1);
        g.checks(ALL_CHECKS - 16);
        judged("the least", g, strange(0, 1), 3, 400);
        judged("the last browser", g, strange(3, 1), 9, 496);
        g = lastNoteHis();
        g.checks(ALL_CHECKS - 16);
        due("the most", g.judge(1, 3, 0, 0, 1), 1);
        due("the most", g.found(0), 527);
        g = gate(1);
        int x = get(g, 0, 0, 1);
        g.checks(ALL_CHECKS - 16);
        none("he has it not", g, strange(1, 1), 2);
        hisRefresh(g, 0, x + 1);
        due("a refresh will do", g.judge(1, 1, 0, 0, 1), 1);
        due("a refresh will do", g.found(0), 433);
        g = gate(1);
        get(g, 2, 0, 1);
        x = get(g, 1, 0, 1);
        hisRefresh(g, 1, x + 1);
        g.checks(ALL_CHECKS - 16);
        due("y is none: browser 1 gets its own alone", g.judge(1, 1, 0, 0, 1), NONE);
        g = gate(1);
        g.tap(1);
        get(g, 0, 0, 1);
        g.checks(ALL_CHECKS - 16);
        g.keeper(false);
        // the first; 100; note or refresh to 1, 2, 3; a tick
        none("one by one", g, letIn(0, 1, 0, 1), 9);
    }

    private static void givePairs() {
        term("z the PAIR that he knows of BROWSER b (0 .. 3; 0 if none), comes to it at once");
        NoteGate g = gate(1);
        int x = get(g, 4, 0, 1);
        g.ask(3, 0, 1);
        g.lose(0);
        due("a pair that he knows not", g.judge(1, 3, 0, 0, 1), NONE);
        g.tap(8);
        g.ask(3, 0, 1);
        g.lose(0);
        due("one that he knows", g.judge(1, 3, 0, 0, 1), 1);
        due("one that he knows", g.found(0), 400 + 96 + x);
        due("another browser", g.judge(1, 2, 0, 0, 1), NONE);
        g.tap(0);
        g.ask(3, 0, 1);
        g.lose(0);
        due("not the latest", g.judge(1, 3, 0, 0, 1), NONE);
        g.tap(8);
        g.ask(3, 0, 1);
        g.deliver(0);
        due("the latest, still open", g.judge(1, 3, 0, 0, 1), 1);
        g.deliver(0);
        due("it has none any more, he knows it still", g.judge(1, 3, 0, 0, 1), NONE);
        g = gate(1);
        get(g, 4, 0, 1);
        g.ask(4, 0, 1);
        g.lose(0);
        g.keeper(false);
        g.checks(ALL_CHECKS - 16);
        // the first; 100; note or refresh to 0, 1, 2, 3, but not to 4, whose pair would be gone by it; a tick
        none("his own browser is none of 0 .. 3", g, letIn(0, 0, 0, 1), 11);
    }

    private static void tickMoves() {
        term("600: a TICK");
        NoteGate g = gate(0);
        g.house(-3, false, 0);
        g.tap(1);
        get(g, 0, 0, 1);
        g.keeper(false);
        judged("he waits", g, letIn(0, 0, 0, 2), 2, 600, 100);
        g = new NoteGate();
        g.house(0, false, 0);
        g.terms(20, 200, 2, 10, 0, 1, 10);
        g.ask(0, 0, 1);
        g.ask(1, 0, 1);
        none("both letters come by a tick", g, letIn(0, 0, 0, 1), 4);
        none("and each by itself", g, letIn(0, 0, 0, 2), 6);
        g = gate(1);
        g.tap(1);
        get(g, 0, 0, 1);
        g.end(0);
        g.lose(0);
        g.tick(9);
        // 100; 600, by which the house knows the family; then 100 600, which is not 600 alone; 600 600
        none("houses hear by a tick", g, letIn(0, 1, 0, 2), 5);
    }

    private static void goals() {
        goalLetIn();
        goalStrange();
    }

    private static void goalLetIn() {
        term("a ROW of MOVES whose last is a SHOW of his of a NOTE of b at a, LET IN");
        NoteGate g = gate(2);
        g.tap(8);
        get(g, 3, 1, 1);
        judged("the last person, house 1", g, letIn(1, 3, 0, 1), 1, 101);
        due("another house", g.judge(0, 0, 3, 0, 1), NONE);
        due("another person", g.judge(0, 1, 2, 0, 1), NONE);
        g = gate(1);
        int x = get(g, 0, 0, 1);
        g.show(0, 0, x, 0);
        due("another's show is not his", g.judge(0, 0, 0, 0, 1), NONE);
        g = gate(0);
        g.house(0, true, 0);
        g.tap(1);
        x = get(g, 0, 0, 1);
        shown(g, 0, 0, x, 0);
        g.keeper(false);
        none("shown, but not let in", g, letIn(0, 0, 0, 1), 2);
    }

    private static void goalStrange() {
        term("behind it (also of no MOVES) BROWSER a HAS a NOTE of another person");
        NoteGate g = gate(1);
        int x = get(g, 4, 0, 1);
        get(g, 1, 0, 1);
        g.checks(ALL_CHECKS - 16);
        due("not yet", g.judge(1, 1, 0, 0, 0), NONE);
        due("its own is not another's", g.judge(1, 1, 0, 0, 0), NONE);
        g.fake(1, x);
        g.deliver(0);
        judged("of no moves", g, strange(1, 0), 1);
        judged("of no moves, though there are some", g, strange(1, 6), 1);
        due("another browser", g.judge(1, 0, 0, 0, 0), NONE);
    }

    private static void rows() {
        atMostSix();
        inOrder();
        leastNumbers();
        shortest();
    }

    private static void atMostSix() {
        term("ROWS have at most n MOVES (0 .. 6)");
        for (int behind = 2; behind <= 8; behind++) {
            NoteGate g = gate(0);
            g.house(-behind, false, 0);
            g.tap(1);
            get(g, 0, 0, 1);
            g.keeper(false);
            int need = behind - 1;
            for (int n = 0; n <= 6; n++) {
                due("clock " + behind + " behind, " + n + " moves", g.judge(0, 0, 0, 0, n), n < need ? NONE : need);
                due("its last", g.found(need - 1), n < need ? NONE : 100);
            }
        }
    }

    private static void inOrder() {
        term("They are gone through by how many MOVES lead to them, then in the order in which they were come to, of each the MOVES "
            + "by their numbers");
        NoteGate g = gate(0);
        g.house(-3, false, 0);
        g.tap(1);
        int x = get(g, 0, 0, 1);
        g.keeper(false);
        g.show(0, 0, x, 7);
        // the first; 0; 600; then 0 600; then of 600: 0, which is alike, and 100
        judged("behind all that the letter leads to", g, letIn(0, 0, 0, 2), 4, 600, 100);
        judged("also where there are more moves", g, letIn(0, 0, 0, 6), 4, 600, 100);
        none("one move", g, letIn(0, 0, 0, 1), 3);
    }

    private static void leastNumbers() {
        term("of several the one whose first MOVE has the least number, then its second one");
        NoteGate g = gate(0);
        g.house(-3, false, 0);
        g.tap(1);
        get(g, 0, 0, 1);
        get(g, 0, 0, 1);
        g.keeper(false);
        judged("the least second", g, letIn(0, 0, 0, 6), 2, 600, 100);
        g = gate(1);
        g.tap(2);
        g.ask(0, 0, 1);
        g.ask(1, 0, 1);
        g.ask(1, 0, 1);
        due("letter 1 or 2", g.judge(0, 0, 1, 0, 6), 2);
        due("the least first", g.found(0), 1);
        due("the only second", g.found(1), 100);
        g = gate(1);
        int x = get(g, 0, 0, 1);
        int y = get(g, 0, 0, 1);
        hisRefresh(g, 0, y + 1);
        hisRefresh(g, 0, x + 1);
        due("the least refresh", g.judge(0, 0, 0, 0, 2), 2);
        due("the least refresh", g.found(0), 301);
    }

    private static void shortest() {
        term("The shortest is told");
        NoteGate g = gate(0);
        g.house(-3, false, 0);
        g.house(0, false, 0);
        g.tap(2);
        g.ask(1, 0, 1);
        due("a letter, a tick, a show", g.judge(0, 0, 1, 0, 6), 3);
        int[] row = {0, 600, 100};
        for (int i = 0; i < row.length; i++) {
            due("found", g.found(i), row[i]);
        }
        get(g, 1, 0, 1);
        due("a tick, a show, though the letter has a lesser number", g.judge(0, 0, 1, 0, 6), 2);
        due("found", g.found(0), 600);
    }

    private static void states() {
        alikeStates();
        unlikeOfOneMark();
        alikeButWhatIsLost();
        apart();
        threeHundred();
        threeHundredAndTheGoal();
        withinMoves();
    }

    private static void alikeStates() {
        term("STATES are alike if all that I to III tell of is (but THE LOG, what was LOST, and SLOTS)");
        NoteGate g = gate(1);
        int x = get(g, 0, 0, 1);
        g.show(0, 0, x, 7);
        g.show(0, 0, x, 7);
        none("two letters alike, one tick", g, letIn(0, 1, 0, 1), 3);
        g.lose(0);
        g.show(0, 0, x, 6);
        none("two letters unlike, one tick", g, letIn(0, 1, 0, 1), 4);
        g.lose(0);
        g.tick(1);
        g.show(0, 0, x, 6);
        none("letters of two times", g, letIn(0, 1, 0, 1), 4);
        g = gate(1);
        g.tap(1);
        get(g, 0, 0, 1);
        g.keeper(false);
        // a show that is not let in is nothing but an entry of the log
        none("right 1 is none of its", g, letIn(0, 1, 1, 1), 2);
        none("let in: the house has it", g, letIn(0, 1, 0, 1), 3);
        shown(g, 4, 0, 0, 0);
        none("let in already", g, letIn(0, 1, 0, 1), 2);
    }

    /** Marks are sums by powers of 31: one right less and a pair that is 31 more give the same, but the letters are two. */
    private static void unlikeOfOneMark() {
        term("STATES are alike if all that I to III tell of is (but THE LOG, what was LOST, and SLOTS)");
        NoteGate g = gate(1);
        g.keeper(false);
        g.ask(0, 0, 2);
        for (int i = 0; i < 30; i++) {
            g.ask(1, 0, 1);
            g.lose(1);
        }
        due("31 pairs later", g.ask(0, 0, 1), 32);
        none("either of two letters stays", g, letIn(0, 1, 0, 1), 4);
    }

    private static void alikeButWhatIsLost() {
        term("what was LOST");
        NoteGate g = gate(2);
        int x = get(g, 0, 0, 1);
        shown(g, 0, 0, x, 0);
        hisRefresh(g, 0, x + 1);
        g.turn(0, x + 1);
        g.deliver(0);
        g.deliver(0);
        for (int i = 0; i < 12; i++) {
            g.show(0, 0, x, 7);
        }
        // by 301 the family is ended, and over is lost; a show goes; a tick
        none("a full post", g, letIn(0, 1, 0, 1), 4);
        due("lost only in the look ahead", g.count(10), 0);
    }

    /** What one order of moves brings is not there in another one. */
    private static void apart() {
        term("THE JUDGE looks ahead from the STATE as it is (nothing of that happens)");
        NoteGate g = gate(1);
        int x = get(g, 0, 0, 1);
        hisRefresh(g, 0, x + 1);
        g.ask(1, 0, 1);
        due("what he turned has the numbers that the ask would have", g.judge(0, 0, 1, 0, 3), NONE);
        due("states, as the model counts them", g.count(11), new Model.Search(twin(), 0, 0, 1, 0, 3).came);
    }

    /** The same state in the model. */
    private static Model.State twin() {
        Model m = new Model();
        m.house(0, false, 0);
        for (int b = 0; b < 5; b++) {
            m.prove(b);
        }
        m.ask(0, 0, 1);
        m.deliver(0);
        m.deliver(0);
        m.tap(1);
        m.turn(0, 1);
        m.lose(0);
        m.tap(0);
        m.ask(1, 0, 1);
        return m.s;
    }

    /** A house with a clock behind, notes that the thief reads, letters of asking in vain and letters of a wrong right. */
    private static NoteGate crowd(int off, int pairs, int asks, int shows) {
        NoteGate g = new NoteGate();
        g.house(off, false, 0);
        g.terms(500, 5000, 2, 100, 0, 100, 10);
        g.tap(1);
        g.prove(0);
        for (int i = 0; i < pairs; i++) {
            get(g, 0, 0, 1);
        }
        g.tap(0);
        for (int i = 0; i < asks; i++) {
            g.ask(1, 0, 1);
        }
        for (int i = 0; i < shows; i++) {
            g.show(0, 0, 0, 1);
        }
        return g;
    }

    private static void threeHundred() {
        term("FULL it is if more than 300 unlike ones (with the first) are come to");
        none("299", crowd(-3, 4, 0, 2), letIn(0, 2, 0, 3), 299);
        none("300", crowd(-3, 4, 0, 3), letIn(0, 2, 0, 3), 300);
        NoteGate g = crowd(-4, 2, 0, 3);
        due("301", g.judge(0, 0, 2, 0, 4), -4);
        due("300 are told", g.count(11), 300);
        due("no row", g.found(0), NONE);
    }

    private static void threeHundredAndTheGoal() {
        term("ahead of a MOVE that leads to the GOAL");
        judged("300 ahead of it", crowd(-4, 3, 4, 2), letIn(0, 0, 0, 3), 300, 600, 600, 100);
        NoteGate g = crowd(-4, 3, 4, 3);
        due("301 ahead of it", g.judge(0, 0, 0, 0, 3), -4);
        due("300 are told", g.count(11), 300);
        due("no row", g.found(0), NONE);
    }

    private static void withinMoves() {
        term("by at most n MOVES");
        NoteGate g = crowd(-4, 2, 0, 3);
        due("four moves", g.judge(0, 0, 2, 0, 4), -4);
        due("three moves", g.judge(0, 0, 2, 0, 3), NONE);
        due("no moves", g.judge(0, 0, 2, 0, 0), NONE);
        due("the first alone", g.count(11), 1);
    }

    private static void promise20() {
        String here = "Promise 20";
        sentence(here, "By how many MOVES the shortest ROW leads to a GOAL (0 or 1) of a, b, the right c, within n");
        NoteGate g = gate(1);
        g.tap(1);
        g.ask(0, 0, 128);
        due("the last right", g.judge(0, 0, 0, 7, 6), 2);
        due("within two", g.judge(0, 0, 0, 7, 2), 2);
        term("GOAL 0 (a HOUSE, b a person 0 .. 3)");
        for (int b = -1; b <= 4; b++) {
            due("person " + b, g.judge(0, 0, b, 7, 0), b < 0 || b > 3 ? -2 : NONE);
        }
        for (int a = -1; a <= 4; a++) {
            due("house " + a, g.judge(0, a, 0, 7, 0), a == 0 ? NONE : -2);
        }
        term("GOAL 1 (a a BROWSER 0 .. 3, b 0)");
        for (int a = -1; a <= 4; a++) {
            due("browser " + a, g.judge(1, a, 0, 7, 0), a < 0 || a > 3 ? -2 : NONE);
        }
        for (int b = -1; b <= 4; b++) {
            due("b " + b, g.judge(1, 0, b, 7, 0), b == 0 ? NONE : -2);
        }
        sentence(here, "NONE: there is none");
        due("not within one", g.judge(0, 0, 0, 7, 1), NONE);
        due("another right", g.judge(0, 0, 0, 6, 2), NONE);
        sentence(here, "-2, and what was told before stays: something is not as told");
        due("told", g.judge(0, 0, 0, 7, 2), 2);
        due("goal 2", g.judge(2, 0, 0, 7, 2), -2);
        due("goal -1", g.judge(-1, 0, 0, 7, 2), -2);
        due("no house 1", g.judge(0, 1, 0, 7, 2), -2);
        due("person 4 is none of 0 .. 3", g.judge(0, 0, 4, 7, 2), -2);
        due("browser 4 is none of 0 .. 3", g.judge(1, 4, 0, 7, 2), -2);
        due("goal 1, b is not 0", g.judge(1, 0, 1, 7, 2), -2);
        due("right 8", g.judge(0, 0, 0, 8, 2), -2);
        due("right 8, which goal 1 needs, too", g.judge(1, 0, 0, 8, 2), -2);
        due("7 moves", g.judge(0, 0, 0, 7, 7), -2);
        due("-1 moves", g.judge(0, 0, 0, 7, -1), -2);
        due("stays", g.found(0), 0);
        due("stays", g.found(1), 100);
        due("no house at all", new NoteGate().judge(0, 0, 0, 0, 1), -2);
        due("goal 1 needs no house", new NoteGate().judge(1, 3, 0, 0, 6), NONE);
        sentence(here, "-4: FULL");
        due("full", crowd(-4, 2, 0, 3).judge(0, 0, 2, 0, 6), -4);
    }

    private static void promise21() {
        String here = "Promise 21";
        sentence(here, "MOVE i (from 0 on) of the ROW of the latest judge()");
        NoteGate g = gate(1);
        due("ahead of any", g.found(0), NONE);
        g.tap(1);
        g.ask(0, 0, 1);
        g.judge(0, 0, 0, 0, 6);
        due("0", g.found(0), 0);
        due("1", g.found(1), 100);
        g.tick(1);
        due("it is not judged again", g.found(1), 100);
        sentence(here, "NONE, if it told none, or there is none such");
        due("-1", g.found(-1), NONE);
        due("2", g.found(2), NONE);
        due("far", g.found(MAX), NONE);
        due("far", g.found(MIN), NONE);
        g.judge(0, 0, 1, 0, 1);
        due("it told none", g.found(0), NONE);
        due("it told none", g.found(1), NONE);
        g = crowd(-3, 4, 0, 3);
        g.judge(0, 0, 0, 0, 6);
        due("a way", g.found(0), 600);
        due("full", g.judge(0, 0, 2, 0, 6), -4);
        due("full tells none", g.found(0), NONE);
    }

    private static void promise22() {
        stopsOfThoseOff();
        stopsEachAlone();
        stopsWrong();
        stopsFull();
    }

    private static void stopsOfThoseOff() {
        sentence("Promise 22", "Of the CHECKS that are off: the set of those by each of which alone, if it were on besides");
        NoteGate g = gate(2);
        g.tap(1);
        get(g, 0, 0, 1);
        due("none is off", g.stops(0, 1, 0, 0, 1), 0);
        g.checks(254);
        due("the first", g.stops(0, 1, 0, 0, 1), 1);
        g.checks(127);
        due("the last, but there is no way at all", g.stops(0, 1, 0, 0, 1), 128);
        due("the last, and it stops nothing", g.stops(0, 0, 0, 0, 1), 0);
        g.checks(0);
        due("all are off: the first alone stops it", g.stops(0, 1, 0, 0, 1), 1);
        due("no way within no moves: each of them", g.stops(0, 1, 0, 0, 0), 255);
        due("all are off still", g.count(7), 0);
    }

    private static void stopsEachAlone() {
        sentence("Promise 22", "judge() would tell NONE");
        NoteGate g = gate(0);
        g.house(0, true, 1);
        g.terms(5, 5, 0, 100, 0, 100, 0);
        g.tap(1);
        int x = get(g, 0, 0, 1);
        shown(g, 0, 0, x, 0);
        g.end(0);
        g.deliver(0);
        g.tick(5);
        g.checks(0);
        due("span, once, ended, fresh: any one of them", g.stops(0, 0, 0, 0, 2), 2 + 4 + 8 + 128);
        g.checks(2);
        due("one is on: no way, whichever else", g.stops(0, 0, 0, 0, 2), 255 - 2);
        g = gate(0);
        g.house(0, true, 0);
        g.tap(1);
        x = get(g, 0, 0, 1);
        shown(g, 0, 0, x, 0);
        g.checks(255 - 4 - 32);
        due("once alone stops the note", g.stops(0, 0, 0, 0, 1), 4);
        due("but not the refresh", g.stops(0, 0, 0, 0, 2), 0);
    }

    private static void stopsWrong() {
        sentence("Promise 22", "-2 as judge()");
        NoteGate g = gate(1);
        due("goal", g.stops(2, 0, 0, 0, 1), -2);
        due("a", g.stops(0, 1, 0, 0, 1), -2);
        due("b", g.stops(0, 0, 4, 0, 1), -2);
        due("c", g.stops(0, 0, 0, 8, 1), -2);
        due("n", g.stops(0, 0, 0, 0, 7), -2);
        due("wrong, though none is off", g.stops(1, 0, 1, 0, 1), -2);
    }

    /** Five notes for house 3 of four that the thief reads: too many states without check 0, not so with it. */
    private static NoteGate fiveNotes() {
        NoteGate g = gate(4);
        g.tap(1);
        for (int i = 0; i < 5; i++) {
            get(g, 0, 3, 1);
        }
        return g;
    }

    private static void stopsFull() {
        sentence("Promise 22", "-4: one of these is FULL");
        NoteGate g = fiveNotes();
        g.checks(254);
        due("judge is full", g.judge(0, 0, 1, 0, 2), -4);
        due("with check 0 it is not", g.stops(0, 0, 1, 0, 2), 1);
        g.checks(254 - 128);
        due("with check 7 it is", g.stops(0, 0, 1, 0, 2), -4);
        due("checks are as they were", g.count(7), 254 - 128);
        g.checks(255 - 128);
        due("check 0 is on", g.stops(0, 0, 1, 0, 2), 128);
        due("what judge told stays", g.count(11), 300);
    }

    private static void promise23() {
        longestSpan();
        longestAfterAGap();
        longestNever();
        longestWrong();
    }

    private static void longestSpan() {
        sentence("Promise 23", "in how many TICKS that is so for the last time (0: now), of 0 .. 1100");
        NoteGate g = gate(0);
        g.house(0, false, 0);
        g.terms(1, 10000, 0, 100, 0, 100, 10);
        int x = get(g, 0, 0, 1);
        due("now alone", g.longest(x, 0, 0), 0);
        g.terms(1, 10000, 1, 100, 0, 100, 10);
        due("one tick more", g.longest(x, 0, 0), 1);
        g.checks(ALL_CHECKS - 2);
        due("for ever: as far as is looked", g.longest(x, 0, 0), 1100);
        g.keeper(false);
        g.tick(99);
        g.terms(1, 10000, 1, 100, 1000, 100, 10);
        due("until the patience ends", g.longest(x, 0, 0), 901);
        g = gate(0);
        g.house(-20, false, 0);
        g.terms(1000, 10000, 20, 100, 0, 100, 10);
        x = get(g, 0, 0, 1);
        due("the longest span that there is", g.longest(x, 0, 0), 1039);
        sentence("Promise 23", "(whoever HAS it)");
        due("the thief has it not", g.note(x, 10), 1);
    }

    private static void longestAfterAGap() {
        sentence("Promise 23", "if nothing but TICKS comes from now on");
        NoteGate g = gate(1);
        g.terms(25, 200, 0, 10, 3, 100, 10);
        int x = get(g, 0, 0, 1);
        due("4 .. 9 it is refused, 10 .. 13, 20 .. 23 not", g.longest(x, 0, 0), 23);
        g = gate(0);
        g.house(-6, false, 0);
        x = get(g, 0, 0, 1);
        due("not now", shown(g, 0, 0, x, 0), 4);
        due("but later", g.longest(x, 0, 0), 27);
    }

    private static void longestNever() {
        sentence("Promise 23", "NONE: never");
        NoteGate g = gate(2);
        int x = get(g, 0, 0, 254);
        due("a refresh", g.longest(x + 1, 0, 1), NONE);
        due("a right that it has not", g.longest(x, 0, 0), NONE);
        due("the last right", g.longest(x, 0, 7), 21);
        due("another house", g.longest(x, 1, 1), NONE);
        g.tick(21);
        due("now alone", g.longest(x, 0, 1), 0);
        g.tick(1);
        due("too late", g.longest(x, 0, 1), NONE);
        g.throwOut(1);
        due("out", g.longest(x, 1, 1), NONE);
    }

    private static void longestWrong() {
        sentence("Promise 23", "-2: there is none such");
        NoteGate g = gate(1);
        due("no note yet", g.longest(0, 0, 0), -2);
        get(g, 0, 0, 1);
        due("note -1", g.longest(-1, 0, 0), -2);
        due("note 2", g.longest(2, 0, 0), -2);
        due("house -1", g.longest(0, -1, 0), -2);
        due("house 1", g.longest(0, 1, 0), -2);
        due("right -1", g.longest(0, 0, -1), -2);
        due("right 8", g.longest(0, 0, 8), -2);
        due("far", g.longest(MAX, MIN, MAX), -2);
    }
}
