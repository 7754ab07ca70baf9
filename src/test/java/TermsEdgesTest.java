/** The document's Terms, I to V: for each sentence that names an edge a test of its own, on both sides of the edge. */
public final class TermsEdgesTest extends Answers {
    private static final Document DOCUMENT = new Document();

    public static void main(String[] args) {
        who();
        terms();
        notes();
        post();
        thiefReads();
        keeperGives();
        lettersCome();
        verdicts();
        ticks();
        slots();
        end();
    }

    private static void sentence(String words) {
        about("Terms: " + words);
        yes("it stands in the document", DOCUMENT.quote("Terms", words));
    }

    /** Checks that are on, without some. */
    private static int without(int... checks) {
        int set = ALL_CHECKS;
        for (int check : checks) {
            set &= ~(1 << check);
        }
        return set;
    }

    private static void who() {
        timeGoesFromZero();
        fourHousesAtMost();
        clocks();
        outForGood();
        rightsOfEightBits();
        thiefIsAPerson();
        holders();
        provedOrNot();
    }

    private static void timeGoesFromZero() {
        sentence("TIME goes in TICKS, from 0 on");
        NoteGate g = new NoteGate();
        due("at first", g.count(0), 0);
        due("one tick", g.tick(1), 1);
        due("two more", g.tick(2), 3);
        due("time", g.count(0), 3);
    }

    private static void fourHousesAtMost() {
        sentence("HOUSES 0 .., 4 at most");
        NoteGate g = new NoteGate();
        for (int h = 0; h < 4; h++) {
            due("house", g.house(0, false, 0), h);
        }
        due("no fifth", g.house(0, false, 0), -3);
        due("four", g.count(1), 4);
        g.prove(0);
        due("the last is one to ask for", g.ask(0, 3, 1), 1);
        due("a fifth is none", g.ask(0, 4, 1), -2);
        g.throwOut(0);
        due("one that is out is one of four", g.house(0, false, 0), -3);
    }

    private static void clocks() {
        sentence("each has a clock (TIME and its OFF, -20 .. 20)");
        NoteGate g = new NoteGate();
        due("the least", g.house(-20, false, 0), 0);
        due("the most", g.house(20, false, 0), 1);
        due("too small", g.house(-21, false, 0), -2);
        due("too large", g.house(21, false, 0), -2);
        due("below 0", g.houseOf(0, 7), -20);
        due("ahead", g.houseOf(1, 7), 20);
        g.tick(20);
        due("0", g.houseOf(0, 7), 0);
        due("40", g.houseOf(1, 7), 40);
    }

    private static void outForGood() {
        sentence("is IN, or OUT for good");
        NoteGate g = gate(3);
        g.throwOut(0);
        g.throwOut(2);
        g.house(0, false, 0);
        g.keeper(false);
        g.keeper(true);
        g.tick(50);
        due("out", g.houseOf(0, 0), 0);
        due("in", g.houseOf(1, 0), 1);
        due("out", g.houseOf(2, 0), 0);
        due("in", g.houseOf(3, 0), 1);
    }

    private static void rightsOfEightBits() {
        sentence("Sets of rights have the bits 0 .. 7");
        NoteGate g = gate(1);
        int first = get(g, 0, 0, 1);
        int last = get(g, 0, 0, 128);
        for (int right = 0; right <= 7; right++) {
            due("the first right alone", shown(g, 0, 0, first, right), right == 0 ? 0 : 9);
            due("the last right alone", shown(g, 0, 0, last, right), right == 7 ? 0 : 9);
        }
        no("no right -1", g.show(0, 0, first, -1));
        no("no right 8", g.show(0, 0, last, 8));
    }

    private static void thiefIsAPerson() {
        sentence("4 is the thief's, who is a person, too");
        NoteGate g = new NoteGate();
        g.house(0, false, 0);
        yes("proved", g.prove(4));
        int x = get(g, 4, 0, 1);
        due("his note", g.note(x, 1), 4);
        due("he has it", g.note(x, 10), 16);
        due("let in", shown(g, 4, 0, x, 0), 0);
        due("where", g.where(4, 0), 0);
        due("he leaves", g.leave(4), 1);
        no("no person 5", g.prove(5));
    }

    private static void holders() {
        sentence("HOLDERS: 0 .. 4 the BROWSERS, 5 + h HOUSE h");
        NoteGate g = gate(4);
        for (int b = 0; b <= 4; b++) {
            int x = get(g, b, 0, 1);
            due("browser " + b, g.note(x, 10), 1 << b);
            g.tick(1);
        }
        g = gate(4);
        for (int h = 0; h <= 3; h++) {
            int x = get(g, 0, h, 1);
            due("let in at " + h, shown(g, 0, h, x, 0), 0);
            due("house " + h, g.note(x, 10), 1 + (1 << 5 + h));
            due("it shows it on", shown(g, 5 + h, h, x, 0), 0);
            yes("it hands it on", g.hand(h, x, (h + 1) % 4, 1));
            g.lose(0);
        }
        no("the keeper has none", g.show(9, 0, 0, 0));
    }

    private static void provedOrNot() {
        sentence("A person is PROVED at a TIME, or not");
        NoteGate g = new NoteGate();
        g.house(0, false, 0);
        due("not", g.browser(0, 0), NONE);
        g.prove(0);
        due("at 0", g.browser(0, 0), 0);
        g.ask(0, 0, 1);
        due("0 is a time", g.deliver(0), 1);
        g.leave(0);
        due("not any more", g.browser(0, 0), NONE);
    }

    private static void terms() {
        atFirst();
        life();
        longer();
        skew();
        each();
        patience();
        late();
        fresh();
        checksAtFirst();
    }

    private static void atFirst() {
        sentence("LIFE (1 .. 1000; at first 20), LONG (1 .. 10000; 200), SKEW (0 .. 20; 2), EACH (1 .. 100; 10), PATIENCE "
            + "(0 .. 1000; 0: it is not asked), LATE (1 .. 100; 5), FRESH (0 .. 1000; 10)");
        NoteGate g = new NoteGate();
        g.house(0, false, 1);
        g.prove(0);
        int x = get(g, 0, 0, 3);
        due("life", g.note(x, 5), 20);
        due("long", g.note(x + 1, 5), 200);
        due("life and skew", g.longest(x, 0, 1), 21);
        due("fresh and skew", g.longest(x, 0, 0), 12);
        g.ask(0, 0, 1);
        g.tick(4);
        due("late: not yet", g.letter(0, 2), 0);
        g.tick(1);
        due("late", g.letter(0, 2), 1);
        g.tick(4);
        due("each: not yet", g.houseOf(0, 4), 0);
        g.tick(1);
        due("each", g.houseOf(0, 4), 10);
        g.keeper(false);
        g.checks(without(1, 7));
        due("patience is not asked", g.longest(x, 0, 0), 1100);
    }

    private static void life() {
        sentence("LIFE (1 .. 1000");
        NoteGate g = gate(1);
        no("too small", g.terms(0, 200, 0, 10, 0, 5, 10));
        no("too large", g.terms(1001, 200, 0, 10, 0, 5, 10));
        yes("least", g.terms(1, 200, 0, 10, 0, 5, 10));
        int x = get(g, 0, 0, 1);
        due("till", g.note(x, 5), 1);
        due("now alone", g.longest(x, 0, 0), 0);
        yes("most", g.terms(1000, 200, 20, 10, 0, 5, 10));
        x = get(g, 0, 0, 1);
        due("till", g.note(x, 5), 1000);
        due("with the most skew", g.longest(x, 0, 0), 1019);
    }

    private static void longer() {
        sentence("LONG (1 .. 10000");
        NoteGate g = gate(1);
        no("too small", g.terms(20, 0, 0, 10, 0, 5, 10));
        no("too large", g.terms(20, 10001, 0, 10, 0, 5, 10));
        yes("least", g.terms(20, 1, 0, 10, 0, 5, 10));
        int x = get(g, 0, 0, 1);
        due("till", g.note(x + 1, 5), 1);
        g.tick(1);
        g.turn(0, x + 1);
        due("not below till", g.deliver(0), 0);
        yes("most", g.terms(20, 10000, 0, 10, 0, 5, 10));
        x = get(g, 0, 0, 1);
        due("till", g.note(x + 1, 5), 10001);
    }

    private static void skew() {
        sentence("SKEW (0 .. 20");
        NoteGate g = gate(0);
        g.house(-20, false, 0);
        g.house(-1, false, 0);
        no("too small", g.terms(20, 200, -1, 10, 0, 5, 10));
        no("too large", g.terms(20, 200, 21, 10, 0, 5, 10));
        int x = get(g, 0, 0, 1);
        int y = get(g, 0, 1, 1);
        yes("least", g.terms(20, 200, 0, 10, 0, 5, 10));
        due("one behind is too far", shown(g, 0, 1, y, 0), 4);
        yes("most", g.terms(20, 200, 20, 10, 0, 5, 10));
        due("20 behind is near enough", shown(g, 0, 0, x, 0), 0);
    }

    private static void each() {
        sentence("EACH (1 .. 100");
        NoteGate g = gate(1);
        no("too small", g.terms(20, 200, 2, 0, 0, 5, 10));
        no("too large", g.terms(20, 200, 2, 101, 0, 5, 10));
        yes("least", g.terms(20, 200, 2, 1, 0, 5, 10));
        for (int time = 1; time <= 3; time++) {
            g.tick(1);
            due("each tick", g.houseOf(0, 4), time);
        }
        yes("most", g.terms(20, 200, 2, 100, 0, 5, 10));
        g.tick(96);
        due("not at 99", g.houseOf(0, 4), 3);
        g.tick(1);
        due("at 100", g.houseOf(0, 4), 100);
        g.tick(99);
        due("not at 199", g.houseOf(0, 4), 100);
        g.tick(1);
        due("at 200", g.houseOf(0, 4), 200);
    }

    private static void patience() {
        sentence("PATIENCE (0 .. 1000; 0: it is not asked)");
        NoteGate g = gate(1);
        int x = get(g, 0, 0, 1);
        g.keeper(false);
        g.checks(without(1));
        no("too small", g.terms(20, 200, 2, 10, -1, 5, 10));
        no("too large", g.terms(20, 200, 2, 10, 1001, 5, 10));
        yes("one", g.terms(20, 200, 2, 10, 1, 5, 10));
        g.tick(1);
        due("1 is not above 1", shown(g, 0, 0, x, 0), 0);
        g.tick(1);
        due("2 is", shown(g, 0, 0, x, 0), 7);
        yes("none", g.terms(20, 200, 2, 10, 0, 5, 10));
        due("not asked", shown(g, 0, 0, x, 0), 0);
        yes("most", g.terms(20, 200, 2, 10, 1000, 5, 10));
        g.tick(499);
        g.tick(499);
        due("1000 is not above 1000", shown(g, 0, 0, x, 0), 0);
        g.tick(1);
        due("1001 is", shown(g, 0, 0, x, 0), 7);
    }

    private static void late() {
        sentence("LATE (1 .. 100");
        NoteGate g = gate(1);
        no("too small", g.terms(20, 200, 2, 10, 0, 0, 10));
        no("too large", g.terms(20, 200, 2, 10, 0, 101, 10));
        yes("least", g.terms(20, 200, 2, 10, 0, 1, 10));
        g.ask(0, 0, 1);
        due("not yet", g.count(2), 0);
        g.tick(1);
        due("it came", g.count(2), 2);
        due("what it brought did not", g.note(0, 10), 0);
        yes("most", g.terms(20, 200, 2, 10, 0, 100, 10));
        g.tick(99);
        due("not after 99", g.note(0, 10), 0);
        g.tick(1);
        due("after 100", g.note(0, 10), 1);
    }

    private static void fresh() {
        sentence("FRESH (0 .. 1000; 10)");
        NoteGate g = gate(0);
        g.house(0, false, 1);
        no("too small", g.terms(20, 200, 0, 10, 0, 5, -1));
        no("too large", g.terms(20, 200, 0, 10, 0, 5, 1001));
        yes("least", g.terms(20, 200, 0, 10, 0, 5, 0));
        int x = get(g, 0, 0, 1);
        due("proved now", shown(g, 0, 0, x, 0), 0);
        g.tick(1);
        due("one tick ago", shown(g, 0, 0, x, 0), 10);
        yes("most", g.terms(20, 200, 20, 10, 0, 5, 1000));
        g.checks(without(1));
        due("1020 is not above 1020", g.longest(x, 0, 0), 1019);
    }

    private static void checksAtFirst() {
        sentence("CHECKS are on (all at first) or off");
        NoteGate g = new NoteGate();
        due("all", g.count(7), 255);
        due("all off", g.checks(0), 255);
        due("all on", g.checks(255), 0);
    }

    private static void notes() {
        thirtyTwoNotes();
        parents();
        sixteenFamilies();
        endedOrNot();
        pairs();
    }

    private static void thirtyTwoNotes() {
        sentence("NOTES, numbered from 0 on, 32 at most");
        NoteGate g = gate(1);
        for (int i = 0; i < 15; i++) {
            due("number", get(g, 0, 0, 1), 2 * i);
        }
        g.turn(0, 29);
        due("the last two, by a turn", g.deliver(0), 1);
        told(g, 0, 9, 0, 1, 30, 31);
        g.deliver(0);
        due("32", g.count(2), 32);
        due("bit 0 of the last", g.note(31, 10), 1);
        due("no note 32", g.note(32, 0), -2);
        due("the last can be turned", g.turn(0, 31) > 0 ? 1 : 0, 1);
        due("but there are no numbers", g.deliver(0), 0);
        due("still 32", g.count(2), 32);
    }

    private static void parents() {
        sentence("a parent (NONE but for HANDED ones)");
        NoteGate g = gate(2);
        int x = get(g, 0, 0, 1);
        shown(g, 0, 0, x, 0);
        g.hand(0, x, 1, 1);
        g.deliver(0);
        g.deliver(0);
        g.turn(0, x + 1);
        g.deliver(0);
        int[] parents = {NONE, NONE, 0, NONE, NONE};
        for (int i = 0; i < parents.length; i++) {
            due("parent of " + i, g.note(i, 8), parents[i]);
        }
    }

    private static void sixteenFamilies() {
        sentence("FAMILIES, from 0 on, 16 at most");
        NoteGate g = gate(1);
        for (int i = 0; i < 16; i++) {
            get(g, i % 5, 0, 1);
            due("person", g.family(i, 0), i % 5);
        }
        due("16", g.count(3), 16);
        due("no family 16", g.family(16, 0), -2);
        g.ask(0, 0, 1);
        due("no more", g.deliver(0), 0);
        due("still 16", g.count(3), 16);
        yes("the last can be ended", g.end(15));
        yes("the first, too", g.end(0));
        no("there is no other", g.end(16));
        g.tick(10);
        due("bits 0 and 15", g.houseOf(0, 5), 32769);
    }

    private static void endedOrNot() {
        sentence("ENDED at a TIME, or not");
        NoteGate g = gate(1);
        get(g, 0, 0, 1);
        due("not", g.family(0, 1), NONE);
        yes("end", g.end(0));
        due("at 0", g.family(0, 1), 0);
        no("0 is a time", g.end(0));
    }

    private static void pairs() {
        sentence("PAIRS are 1, 2, 3, .. as they are given; a BROWSER has the latest that it got, or none");
        NoteGate g = gate(1);
        due("none", g.browser(0, 1), 0);
        due("first", g.ask(0, 0, 1), 1);
        due("second", g.ask(1, 0, 1), 2);
        due("refused: none is given", g.ask(2, 0, 0), -2);
        due("third", g.ask(0, 0, 1), 3);
        due("the latest", g.browser(0, 1), 3);
        due("its own", g.browser(1, 1), 2);
        due("none", g.browser(2, 1), 0);
        g.deliver(2);
        g.deliver(2);
        due("taken: none", g.browser(0, 1), 0);
        due("fourth, by a turn", g.turn(0, 1), 4);
        due("the latest", g.browser(0, 1), 4);
    }

    private static void post() {
        kindsOfLetters();
        twelveLetters();
        oneForward();
        lostOnes();
        goesFirst();
    }

    private static void kindsOfLetters() {
        sentence("from whom, to whom, a KIND, x, y, z, the TIME when it was posted");
        NoteGate g = gate(2);
        g.tick(1);
        sentence("0 ASK, from a BROWSER to 9: x HOUSE, y rights, z PAIR");
        g.ask(3, 1, 6);
        told(g, 0, 3, 9, 0, 1, 6, 1, 1);
        sentence("1 GIVE: x NOTE, y REFRESH (NONE), z PAIR (0)");
        g.deliver(0);
        told(g, 0, 9, 3, 1, 0, 1, 1, 1);
        g.deliver(0);
        sentence("2 SHOW, from a HOLDER to a HOUSE: x NOTE, y right, z 0");
        g.show(3, 1, 0, 2);
        told(g, 0, 3, 6, 2, 0, 2, 0, 1);
        g.deliver(0);
        g.show(6, 0, 0, 0);
        told(g, 0, 6, 5, 2, 0, 0, 0, 1);
        g.lose(0);
        sentence("3 TURN, from a BROWSER to 9: x REFRESH, y NONE, z PAIR");
        g.turn(3, 1);
        told(g, 0, 3, 9, 3, 1, NONE, 2, 1);
        g.lose(0);
        sentence("4 HAND, from a HOUSE to 9: x NOTE, y helper, z rights");
        g.hand(1, 0, 0, 7);
        told(g, 0, 6, 9, 4, 0, 0, 7, 1);
        sentence("GIVE of it, y NONE, z 0, to who sent it");
        g.deliver(0);
        told(g, 0, 9, 6, 1, 2, NONE, 0, 1);
        g.lose(0);
        sentence("5 OVER, from 9 to a HOUSE: x FAMILY, y NONE, z 0");
        g.end(0);
        told(g, 0, 9, 5, 5, 0, NONE, 0, 1);
        told(g, 1, 9, 6, 5, 0, NONE, 0, 1);
    }

    private static void twelveLetters() {
        sentence("LETTERS are in the POST, 12 at most, numbered from 0 on as they were posted");
        NoteGate g = gate(1);
        for (int i = 0; i < 12; i++) {
            due("pair", g.ask(i % 5, 0, 1), i + 1);
            due("so many", g.count(4), i + 1);
        }
        for (int i = 0; i < 12; i++) {
            due("by numbers", g.letter(i, 5), i + 1);
        }
        due("no letter 12", g.letter(12, 0), -2);
        g.ask(0, 0, 1);
        due("still 12", g.count(4), 12);
        due("the last is as it was", g.letter(11, 5), 12);
        due("the last comes", g.deliver(11), 1);
    }

    private static void oneForward() {
        sentence("(where one goes those behind it come one forward)");
        for (int gone : new int[] {0, 5, 10, 11}) {
            NoteGate g = gate(2);
            for (int i = 0; i < 12; i++) {
                g.ask(i % 4, i % 2, i + 1);
            }
            yes("lose", g.lose(gone));
            due("11", g.count(4), 11);
            for (int i = 0; i < 11; i++) {
                int was = i < gone ? i : i + 1;
                told(g, i, was % 4, 9, 0, was % 2, was + 1, was + 1, 0);
            }
            due("no letter 11", g.letter(11, 0), -2);
        }
    }

    private static void lostOnes() {
        sentence("One that would be posted while there are 12 is LOST (nobody reads it)");
        NoteGate g = gate(2);
        int x = get(g, 0, 0, 1);
        shown(g, 0, 0, x, 0);
        for (int i = 0; i < 11; i++) {
            g.ask(1, 0, 1);
        }
        g.tap(511);
        due("the twelfth is read", g.ask(2, 0, 1), 13);
        due("his pair is known", g.browser(2, 2), 13);
        due("none is lost", g.count(10), 0);
        due("a pair all the same", g.ask(2, 0, 1), 14);
        due("an ask is lost", g.count(10), 1);
        due("nobody read it", g.browser(2, 2), 13);
        due("a turn", g.turn(0, x + 1), 15);
        due("a turn is lost", g.count(10), 2);
        due("nobody read it", g.note(x + 1, 10), 1);
        yes("a show", g.show(0, 0, x, 0));
        due("a show is lost", g.count(10), 3);
        yes("a hand", g.hand(0, x, 1, 1));
        due("a hand is lost", g.count(10), 4);
        due("nobody read them", g.note(x, 10), 1 + 32);
        yes("an over", g.end(0));
        due("an over is lost", g.count(10), 5);
        due("ended all the same", g.family(0, 1), 0);
        due("12", g.count(4), 12);
    }

    private static void goesFirst() {
        sentence("A LETTER that comes goes from the POST first");
        NoteGate g = gate(2);
        g.ask(0, 0, 1);
        for (int i = 0; i < 11; i++) {
            g.ask(1, 0, 1);
        }
        due("an ask of a full post", g.deliver(0), 1);
        due("its give has a place", g.count(4), 12);
        due("none is lost", g.count(10), 0);
        told(g, 11, 9, 0, 1, 0, 1, 1, 0);
        g = gate(2);
        int x = get(g, 0, 0, 1);
        shown(g, 0, 0, x, 0);
        g.hand(0, x, 1, 1);
        g.deliver(0);
        g.deliver(0);
        g.turn(0, x + 1);
        g.copy(0);
        g.deliver(0);
        for (int i = 0; i < 10; i++) {
            g.ask(1, 0, 1);
        }
        due("a turn that ends a family of two houses", g.deliver(0), 1);
        due("an over has a place", g.letter(11, 2), 5);
        due("the first by numbers", g.letter(11, 1), 5);
        due("the other is lost", g.count(10), 1);
    }

    private static void thiefReads() {
        tappedThen();
        tellsOfEachKind();
        pairOfWhom();
        inPlaceOfWhatHeKnew();
        keepsWhatOthersHave();
    }

    private static void tappedThen() {
        sentence("Of one that is posted, from or to a HOLDER that is TAPPED then");
        NoteGate g = gate(1);
        int x = get(g, 0, 0, 1);
        g.show(0, 0, x, 0);
        g.tap(511);
        due("tapped too late", g.note(x, 10), 1);
        g.deliver(0);
        due("coming is not posting", g.note(x, 10), 1 + 32);
        g.tap(511 - 1 - 32);
        g.show(0, 0, x, 0);
        due("neither from nor to", g.note(x, 10), 1 + 32);
        g.tap(1);
        g.show(0, 0, x, 0);
        due("from", g.note(x, 10), 1 + 16 + 32);
        g = gate(4);
        x = get(g, 0, 3, 1);
        g.tap(256);
        g.show(0, 3, x, 0);
        due("to the last holder", g.note(x, 10), 1 + 16);
        g.tap(0);
        due("from now on", g.note(x, 10), 1 + 16);
    }

    private static void tellsOfEachKind() {
        sentence("the NOTES that it tells (x of SHOW, TURN, HAND; x and y of GIVE)");
        NoteGate g = gate(2);
        get(g, 1, 0, 1);
        int x = get(g, 0, 0, 1);
        g.tap(1);
        g.show(0, 0, x, 1);
        due("x of show", g.note(x, 10), 1 + 16);
        due("not its y, a right", g.note(1, 10), 2);
        due("not its z", g.note(0, 10), 2);
        g.lose(0);
        g.turn(0, x + 1);
        due("x of turn", g.note(x + 1, 10), 1 + 16);
        g.tap(0);
        g.lose(0);
        g = gate(2);
        get(g, 1, 0, 1);
        x = get(g, 0, 0, 1);
        shown(g, 0, 0, x, 0);
        g.tap(32);
        g.hand(0, x, 1, 1);
        due("x of hand", g.note(x, 10), 1 + 16 + 32);
        due("not its y, a house", g.note(1, 10), 2);
        g.deliver(0);
        due("x of give", g.note(4, 10), 16);
        g.tap(1);
        g.ask(0, 0, 1);
        due("x of ask is a house", g.note(0, 10), 2);
        g.deliver(1);
        due("x of give", g.note(5, 10), 16);
        due("y of give", g.note(6, 10), 16);
        g.tap(511);
        g.end(0);
        due("x of over is a family", g.note(0, 10), 2);
    }

    private static void pairOfWhom() {
        sentence("knows z of ASK, TURN as the PAIR of the BROWSER that sent it, z of GIVE as that of the BROWSER to which it "
            + "goes, if it is one of 0 .. 3");
        NoteGate g = gate(2);
        g.tap(511);
        for (int b = 0; b <= 4; b++) {
            g.ask(b, 0, 1);
            due("ask of " + b, g.browser(b, 2), b == 4 ? 0 : b + 1);
        }
        g.tap(0);
        for (int b = 0; b <= 4; b++) {
            g.deliver(0);
            g.deliver(g.count(4) - 1);
        }
        g.tap(511);
        for (int b = 0; b <= 4; b++) {
            due("turn", g.turn(b, 2 * b + 1), b + 6);
            due("turn of " + b, g.browser(b, 2), b == 4 ? 0 : b + 6);
        }
        g = gate(1);
        for (int b = 0; b <= 4; b++) {
            g.ask(b, 0, 1);
        }
        g.tap(511);
        for (int b = 0; b <= 4; b++) {
            due("not yet", g.browser(b, 2), 0);
            g.deliver(0);
            due("give to " + b, g.browser(b, 2), b == 4 ? 0 : b + 1);
        }
        g = gate(2);
        int x = get(g, 0, 0, 1);
        g.tap(511);
        g.show(0, 0, x, 0);
        g.deliver(0);
        g.hand(0, x, 1, 1);
        g.deliver(0);
        for (int b = 0; b <= 4; b++) {
            due("no pair of show, hand, give to a house", g.browser(b, 2), 0);
        }
    }

    private static void inPlaceOfWhatHeKnew() {
        sentence("(in place of what he knew)");
        NoteGate g = gate(1);
        g.tap(1);
        g.ask(0, 0, 1);
        g.ask(0, 0, 1);
        due("the later", g.browser(0, 2), 2);
        yes("an earlier one again", g.copy(0));
        due("in place of the later", g.browser(0, 2), 1);
        g.tap(0);
        g.ask(0, 0, 1);
        due("not read", g.browser(0, 2), 1);
        NoteGate h = gate(1);
        int x = get(h, 4, 0, 1);
        h.fake(2, x);
        h.tap(4);
        h.ask(2, 0, 1);
        due("a pair", h.browser(2, 2), 2);
        yes("a give with 0 again", h.copy(0));
        due("0, in place of it", h.browser(2, 2), 0);
    }

    private static void keepsWhatOthersHave() {
        sentence("the thief HAS from now on the NOTES");
        NoteGate g = gate(1);
        g.ask(0, 0, 1);
        g.deliver(0);
        g.copy(0);
        g.deliver(0);
        due("browser 0 has both", g.note(0, 10) + g.note(1, 10), 2);
        g.tap(1);
        g.copy(0);
        due("he too", g.note(0, 10), 1 + 16);
        due("he too", g.note(1, 10), 1 + 16);
    }

    private static void keeperGives() {
        keeperDown();
        numbersForAll();
        askComes();
        turnComes();
        turnGives();
        turnedTwice();
        handComes();
        handsNarrower();
    }

    private static void keeperDown() {
        sentence("The KEEPER does nothing while DOWN");
        NoteGate g = gate(2);
        int x = get(g, 0, 0, 1);
        shown(g, 0, 0, x, 0);
        g.turn(0, x + 1);
        g.deliver(0);
        g.lose(0);
        g.ask(0, 0, 1);
        g.turn(0, x + 1);
        g.hand(0, x, 1, 1);
        g.keeper(false);
        for (int i = 0; i < 3; i++) {
            due("nothing comes of it", g.deliver(0), 0);
        }
        due("nothing is posted", g.count(4), 0);
        due("no notes", g.count(2), 4);
        due("no family", g.count(3), 1);
        due("none ended", g.family(0, 1), NONE);
        g.keeper(true);
        g.turn(0, x + 1);
        due("up again", g.deliver(0), 1);
        due("ended", g.family(0, 1), 0);
        g.keeper(false);
        due("houses go on: over comes", g.deliver(0), 1);
        due("known", shown(g, 0, 0, x, 0), 6);
    }

    /** Thirty-one notes: fifteen askings and one that was handed on. */
    private static NoteGate thirtyOne() {
        NoteGate g = gate(2);
        for (int i = 0; i < 15; i++) {
            get(g, 0, 0, 1);
        }
        shown(g, 0, 0, 0, 0);
        g.hand(0, 0, 1, 1);
        g.deliver(0);
        g.deliver(0);
        return g;
    }

    private static void numbersForAll() {
        sentence("where it gives NOTES there must be numbers for all of them (and for a FAMILY that begins), else nothing is done");
        NoteGate g = thirtyOne();
        due("31", g.count(2), 31);
        g.ask(0, 0, 1);
        due("ask needs two", g.deliver(0), 0);
        due("no family begins", g.count(3), 15);
        g.turn(0, 1);
        due("turn needs two", g.deliver(0), 0);
        due("it is not turned", g.note(1, 9), 0);
        due("nothing is posted", g.count(4), 0);
        g.hand(0, 0, 1, 1);
        due("hand needs one", g.deliver(0), 1);
        g.deliver(0);
        due("32", g.count(2), 32);
        g.hand(0, 0, 1, 1);
        due("and there is none more", g.deliver(0), 0);
        due("nothing is posted", g.count(4), 0);
        due("32", g.count(2), 32);
        g = gate(1);
        for (int i = 0; i < 15; i++) {
            get(g, 0, 0, 1);
        }
        g.ask(0, 0, 1);
        due("ask takes the last two and the last family", g.deliver(0), 1);
        due("32", g.count(2), 32);
        due("16", g.count(3), 16);
    }

    private static void askComes() {
        sentence("ASK: if the person is PROVED and the HOUSE is IN");
        NoteGate g = gate(2);
        g.ask(0, 0, 1);
        g.ask(1, 1, 1);
        g.ask(2, 0, 1);
        g.leave(0);
        g.throwOut(1);
        due("not proved any more", g.deliver(0), 0);
        due("out", g.deliver(0), 0);
        due("neither", g.deliver(0), 1);
        due("one family", g.count(3), 1);
        sentence("a NOTE of these (FROM now, TILL LIFE more, PROOF when the person was PROVED)");
        g = gate(1);
        g.tick(3);
        g.prove(2);
        g.tick(2);
        g.ask(2, 0, 9);
        g.tick(1);
        g.deliver(0);
        noted(g, 0, 0, 2, 0, 9, 6, 26, 0, 3, NONE, 0, 0);
        sentence("and a REFRESH likewise, but TILL LONG more; GIVE of both with z to the BROWSER");
        noted(g, 1, 1, 2, 0, 9, 6, 206, 0, 3, NONE, 0, 0);
        told(g, 0, 9, 2, 1, 0, 1, 1, 6);
    }

    private static void turnComes() {
        sentence("TURN: if x's FAMILY is not ENDED, TIME is below x's TILL, its HOUSE is IN");
        NoteGate g = gate(2);
        g.terms(5, 12, 2, 10, 0, 100, 10);
        int x = get(g, 0, 0, 1);
        int y = get(g, 0, 1, 1);
        g.turn(0, x + 1);
        g.copy(0);
        g.turn(0, y + 1);
        g.tick(11);
        due("a tick below till", g.deliver(0), 1);
        due("the turned one is as long", g.note(5, 5), 12);
        g.throwOut(1);
        due("out", g.deliver(1), 0);
        due("it is not turned", g.note(y + 1, 9), 0);
        g.tick(1);
        due("till: not even that it was turned counts", g.deliver(0), 0);
        due("not ended", g.family(0, 1), NONE);
        g = gate(1);
        x = get(g, 0, 0, 1);
        g.end(0);
        g.turn(0, x + 1);
        due("ended", g.deliver(1), 0);
        due("no notes", g.count(2), 2);
    }

    private static void turnGives() {
        sentence("else x is TURNED, and there come a NOTE (FROM now, TILL LIFE more) and a REFRESH (FROM now, TILL as x), of x's "
            + "person, HOUSE, rights, FAMILY, PROOF; GIVE of both with z to who sent it");
        NoteGate g = gate(2);
        get(g, 1, 0, 1);
        g.tick(1);
        g.prove(4);
        g.tick(1);
        int x = get(g, 4, 1, 130);
        g.checks(without(4));
        g.fake(2, x + 1);
        g.deliver(0);
        g.tick(1);
        g.prove(4);
        due("browser 2 turns what is the thief's", g.turn(2, x + 1), 3);
        due("given", g.deliver(0), 1);
        told(g, 0, 9, 2, 1, 4, 5, 3, 3);
        noted(g, 4, 0, 4, 1, 130, 3, 23, 1, 1, NONE, 0, 0);
        noted(g, 5, 1, 4, 1, 130, 3, 202, 1, 1, NONE, 0, 0);
        due("turned", g.note(x + 1, 9), 1);
        due("its note is as it was", g.note(x, 9), 0);
    }

    private static void turnedTwice() {
        sentence("if x was TURNED already and CHECK 5 is on, the FAMILY is ENDED");
        NoteGate g = gate(1);
        int x = get(g, 0, 0, 3);
        g.turn(0, x + 1);
        g.copy(0);
        g.copy(0);
        g.tick(2);
        due("once", g.deliver(0), 1);
        due("turned", g.note(x + 1, 9), 1);
        due("the new one is not", g.note(x + 3, 9), 0);
        g.checks(without(5));
        due("twice, but the check is off", g.deliver(0), 1);
        due("notes", g.count(2), 6);
        due("not ended", g.family(0, 1), NONE);
        g.checks(ALL_CHECKS);
        due("three times", g.deliver(0), 1);
        due("no notes", g.count(2), 6);
        due("ended", g.family(0, 1), 2);
        told(g, 2, 9, 5, 5, 0, NONE, 0, 2);
        g = gate(1);
        g.throwOut(0);
        g.house(0, false, 0);
        x = get(g, 0, 1, 1);
        g.turn(0, x + 1);
        g.copy(0);
        g.deliver(0);
        g.throwOut(1);
        due("twice at one that is out: nothing", g.deliver(0), 0);
        due("not ended", g.family(0, 1), NONE);
    }

    private static void handComes() {
        sentence("HAND: if x's FAMILY is not ENDED, TIME is below x's TILL, the helper is IN, and rights are left");
        NoteGate g = gate(3);
        g.terms(20, 200, 2, 10, 0, 100, 10);
        int x = get(g, 0, 0, 6);
        shown(g, 0, 0, x, 1);
        g.hand(0, x, 1, 2);
        g.hand(0, x, 2, 4);
        g.hand(0, x, 1, 2);
        g.hand(0, x, 1, 1);
        g.throwOut(2);
        g.tick(19);
        due("a tick below till", g.deliver(0), 1);
        due("the helper is out", g.deliver(0), 0);
        due("no rights are left", g.deliver(1), 0);
        g.tick(1);
        due("till", g.deliver(0), 0);
        g = gate(2);
        x = get(g, 0, 0, 6);
        shown(g, 0, 0, x, 1);
        g.hand(0, x, 1, 2);
        g.throwOut(0);
        g.end(0);
        due("ended", g.deliver(0), 0);
        g = gate(2);
        x = get(g, 0, 0, 6);
        shown(g, 0, 0, x, 1);
        g.hand(0, x, 1, 2);
        g.throwOut(0);
        due("only the helper must be in", g.deliver(0), 1);
    }

    private static void handsNarrower() {
        sentence("those of z, with CHECK 6 those that x has, too");
        NoteGate g = gate(2);
        int x = get(g, 0, 0, 6);
        shown(g, 0, 0, x, 1);
        g.tick(1);
        for (int set : new int[] {255, 129, 4}) {
            g.hand(0, x, 1, set);
        }
        due("all of x", g.deliver(0), 1);
        due("all of x", g.note(2, 3), 6);
        due("none of x", g.deliver(0), 0);
        due("one of x", g.deliver(0), 1);
        due("one of x", g.note(3, 3), 4);
        g.checks(without(6));
        g.hand(0, x, 1, 129);
        due("the check is off", g.deliver(2), 1);
        due("those of z", g.note(4, 3), 129);
        sentence("TILL LIFE more (with CHECK 6 x's TILL, if that is less)");
        due("the check is off: life more", g.note(4, 5), 21);
        due("x's till is less", g.note(3, 5), 20);
        g.checks(ALL_CHECKS);
        g.terms(19, 200, 2, 10, 0, 100, 10);
        g.hand(0, x, 1, 4);
        g.deliver(g.count(4) - 1);
        due("both are one", g.note(5, 5), 20);
        g.terms(18, 200, 2, 10, 0, 100, 10);
        g.hand(0, x, 1, 4);
        g.deliver(g.count(4) - 1);
        due("life is less", g.note(6, 5), 19);
    }

    private static void lettersCome() {
        giveToBrowser();
        giveToHouse();
        overComes();
        familyEnds();
    }

    private static void giveToBrowser() {
        sentence("with CHECK 4 it is taken only if the BROWSER has a PAIR, and that is z");
        NoteGate g = gate(1);
        int x = get(g, 4, 0, 1);
        g.fake(1, x);
        due("no pair, though z is 0", g.deliver(0), 0);
        g.ask(1, 0, 1);
        g.fake(1, x);
        due("a pair, and z is 0", g.deliver(1), 0);
        g.deliver(0);
        g.copy(0);
        g.ask(1, 0, 1);
        due("a later pair", g.deliver(0), 0);
        due("its pair stays", g.browser(1, 1), 3);
        due("not taken", g.note(2, 10), 0);
        g.deliver(1);
        due("its own", g.deliver(1), 1);
        due("not twice", g.browser(1, 1), 0);
        sentence("Taken: it HAS x, and y, and has no PAIR any more");
        due("x", g.note(4, 10), 2);
        due("y", g.note(5, 10), 2);
        due("no pair: not taken", g.deliver(0), 0);
        g.checks(without(4));
        g.ask(1, 0, 1);
        g.fake(1, x);
        due("check 4 off: a pair, and z is 0", g.deliver(1), 1);
        due("has no pair any more", g.browser(1, 1), 0);
        due("x", g.note(x, 10), 2 + 16);
        due("y is none", g.note(x + 1, 10), 16);
        g.fake(1, x + 1);
        due("check 4 off: no pair", g.deliver(1), 1);
    }

    private static void giveToHouse() {
        sentence("To a HOUSE: it HAS x");
        NoteGate g = gate(2);
        int x = get(g, 0, 0, 1);
        shown(g, 0, 0, x, 0);
        g.hand(0, x, 1, 1);
        g.deliver(0);
        told(g, 0, 9, 5, 1, 2, NONE, 0, 0);
        due("posted", g.note(2, 10), 0);
        g.throwOut(0);
        due("no pair is asked for, nor whether it is in", g.deliver(0), 1);
        due("has it", g.note(2, 10), 32);
    }

    private static void overComes() {
        sentence("OVER: the HOUSE KNOWS x");
        NoteGate g = gate(1);
        get(g, 0, 0, 1);
        int y = get(g, 0, 0, 1);
        int z = get(g, 0, 0, 1);
        g.end(0);
        g.end(2);
        g.deliver(0);
        due("the first", g.houseOf(0, 5), 1);
        g.deliver(0);
        due("both", g.houseOf(0, 5), 5);
        due("known", shown(g, 0, 0, z, 0), 6);
        due("not known", shown(g, 0, 0, y, 0), 0);
        g = gate(4);
        get(g, 0, 3, 1);
        g.end(0);
        g.deliver(0);
        due("the last house", g.houseOf(3, 5), 1);
        due("no other", g.houseOf(0, 5) + g.houseOf(1, 5) + g.houseOf(2, 5), 0);
    }

    private static void familyEnds() {
        sentence("OVER is posted to each HOUSE, by numbers, that is IN and for which there is a NOTE or HANDED one of it");
        NoteGate g = gate(4);
        int x = get(g, 0, 3, 1);
        get(g, 0, 1, 1);
        shown(g, 0, 3, x, 0);
        for (int helper : new int[] {2, 0}) {
            g.hand(3, x, helper, 1);
            g.deliver(0);
            g.deliver(0);
        }
        g.throwOut(2);
        g.tick(1);
        yes("end", g.end(0));
        due("two of four", g.count(4), 2);
        told(g, 0, 9, 5, 5, 0, NONE, 0, 1);
        told(g, 1, 9, 8, 5, 0, NONE, 0, 1);
        yes("the other family", g.end(1));
        told(g, 2, 9, 6, 5, 1, NONE, 0, 1);
        sentence("A FAMILY that is ENDED: it is so now");
        due("now", g.family(0, 1), 1);
    }

    private static void verdicts() {
        houseIsOut();
        isRefresh();
        forAnotherHouse();
        belowFrom();
        notBelowTill();
        knownAsEnded();
        notHeard();
        onceOnly();
        noneOfItsRights();
        notFresh();
        letIn();
        firstOfThese();
        countsIfOn();
        logOfSixty();
    }

    private static void houseIsOut() {
        sentence("1 the HOUSE is OUT");
        NoteGate g = gate(1);
        int x = get(g, 0, 0, 1);
        g.checks(0);
        due("in", shown(g, 0, 0, x, 0), 0);
        g.throwOut(0);
        due("out: no check is needed", shown(g, 0, 0, x, 0), 1);
    }

    private static void isRefresh() {
        sentence("2 x is a REFRESH");
        NoteGate g = gate(2);
        int x = get(g, 0, 0, 1);
        shown(g, 0, 0, x, 0);
        g.hand(0, x, 1, 1);
        g.deliver(0);
        g.deliver(0);
        g.checks(0);
        due("a note", shown(g, 0, 0, x, 0), 0);
        due("a refresh: no check is needed", shown(g, 0, 0, x + 1, 0), 2);
        due("a handed one", shown(g, 5, 1, 2, 0), 0);
    }

    private static void forAnotherHouse() {
        sentence("3 CHECK 0, and x is for another HOUSE");
        NoteGate g = gate(3);
        int x = get(g, 0, 1, 1);
        due("one before", shown(g, 0, 0, x, 0), 3);
        due("its own", shown(g, 0, 1, x, 0), 0);
        due("one behind", shown(g, 0, 2, x, 0), 3);
        g.checks(without(0));
        due("check 0 off", shown(g, 0, 2, x, 0), 0);
        due("it has it", g.note(x, 10), 1 + 64 + 128);
    }

    private static void belowFrom() {
        sentence("4 CHECK 1, and c is below FROM less SKEW");
        NoteGate g = gate(0);
        g.house(-3, false, 0);
        g.tick(5);
        int x = get(g, 0, 0, 1);
        due("clock 2, from 5, skew 2", shown(g, 0, 0, x, 0), 4);
        g.checks(without(1));
        due("check 1 off", shown(g, 0, 0, x, 0), 0);
        g.checks(ALL_CHECKS);
        g.tick(1);
        due("clock 3", shown(g, 0, 0, x, 0), 0);
    }

    private static void notBelowTill() {
        sentence("5 CHECK 1, and c is not below TILL and SKEW");
        NoteGate g = gate(0);
        g.house(3, false, 0);
        g.tick(5);
        int x = get(g, 0, 0, 1);
        g.tick(18);
        due("clock 26, till 25, skew 2", shown(g, 0, 0, x, 0), 0);
        g.tick(1);
        due("clock 27", shown(g, 0, 0, x, 0), 5);
        g.checks(without(1));
        due("check 1 off", shown(g, 0, 0, x, 0), 0);
    }

    private static void knownAsEnded() {
        sentence("6 CHECK 3, and it KNOWS x's FAMILY");
        NoteGate g = gate(2);
        int x = get(g, 0, 0, 1);
        int y = get(g, 0, 1, 1);
        g.end(0);
        due("ended, but not known", shown(g, 0, 0, x, 0), 0);
        g.deliver(0);
        due("known", shown(g, 0, 0, x, 0), 6);
        due("of another family", shown(g, 0, 1, y, 0), 0);
        g.checks(without(0));
        due("another house knows it not", shown(g, 0, 1, x, 0), 0);
        due("this one knows another not", shown(g, 0, 0, y, 0), 0);
        g.checks(without(3));
        due("check 3 off", shown(g, 0, 0, x, 0), 0);
    }

    private static void notHeard() {
        sentence("7 CHECK 3, PATIENCE is above 0, and TIME less HEARD above it");
        NoteGate g = gate(0);
        g.tick(10);
        g.house(20, false, 0);
        g.terms(100, 200, 20, 50, 4, 100, 10);
        int x = get(g, 0, 0, 1);
        g.tick(4);
        due("14 less 10: the clock does not count", shown(g, 0, 0, x, 0), 0);
        g.tick(1);
        due("15 less 10", shown(g, 0, 0, x, 0), 7);
        g.checks(without(3));
        due("check 3 off", shown(g, 0, 0, x, 0), 0);
        g.checks(ALL_CHECKS);
        g.terms(100, 200, 20, 50, 0, 100, 10);
        due("patience 0", shown(g, 0, 0, x, 0), 0);
        g.terms(100, 200, 20, 50, 4, 100, 10);
        g.tick(34);
        due("at 49", shown(g, 0, 0, x, 0), 7);
        g.tick(1);
        due("heard at 50", shown(g, 0, 0, x, 0), 0);
    }

    private static void onceOnly() {
        sentence("8 CHECK 2, the HOUSE is ONCE, and x was LET IN there");
        NoteGate g = gate(0);
        g.house(0, true, 0);
        g.house(0, false, 0);
        g.house(0, true, 0);
        int x = get(g, 0, 0, 1);
        int y = get(g, 0, 0, 1);
        int z = get(g, 0, 1, 1);
        due("refused once", shown(g, 0, 0, x, 1), 9);
        due("that is no letting in", shown(g, 0, 0, x, 0), 0);
        due("twice", shown(g, 0, 0, x, 0), 8);
        due("another note", shown(g, 0, 0, y, 0), 0);
        due("that one twice", shown(g, 0, 0, y, 0), 8);
        due("the first still", shown(g, 0, 0, x, 0), 8);
        due("not once", shown(g, 0, 1, z, 0), 0);
        due("not once", shown(g, 0, 1, z, 0), 0);
        g.checks(without(0));
        due("let in elsewhere", shown(g, 0, 2, x, 0), 0);
        due("twice there", shown(g, 0, 2, x, 0), 8);
        g.checks(without(0, 2));
        due("check 2 off", shown(g, 0, 2, x, 0), 0);
    }

    private static void noneOfItsRights() {
        sentence("9 the right is none of x's");
        NoteGate g = gate(1);
        int x = get(g, 0, 0, 254);
        int y = get(g, 0, 0, 127);
        g.checks(0);
        due("right 0 of 254: no check is needed", shown(g, 0, 0, x, 0), 9);
        due("right 1 of 254", shown(g, 0, 0, x, 1), 0);
        due("right 7 of 254", shown(g, 0, 0, x, 7), 0);
        due("right 6 of 127", shown(g, 0, 0, y, 6), 0);
        due("right 7 of 127", shown(g, 0, 0, y, 7), 9);
    }

    private static void notFresh() {
        sentence("10 CHECK 7, the right is DEAR there, and c less PROOF above FRESH and SKEW");
        NoteGate g = gate(0);
        g.house(3, false, 129);
        g.terms(100, 200, 2, 10, 0, 100, 10);
        g.tick(5);
        g.prove(0);
        g.tick(2);
        int x = get(g, 0, 0, 255);
        g.tick(7);
        due("clock 17, proof 5, fresh 10, skew 2", shown(g, 0, 0, x, 0), 0);
        g.tick(1);
        due("clock 18", shown(g, 0, 0, x, 0), 10);
        due("the last right is dear, too", shown(g, 0, 0, x, 7), 10);
        due("a right that is not dear", shown(g, 0, 0, x, 1), 0);
        due("a right that is not dear", shown(g, 0, 0, x, 6), 0);
        g.checks(without(7));
        due("check 7 off", shown(g, 0, 0, x, 0), 0);
        g.checks(ALL_CHECKS);
        g.prove(0);
        due("proved again: the note's proof stays", shown(g, 0, 0, x, 0), 10);
    }

    private static void letIn() {
        sentence("Else 0: x is LET IN there, and the HOUSE HAS x");
        NoteGate g = gate(2);
        int x = get(g, 0, 1, 1);
        int y = get(g, 0, 1, 1);
        due("refused", shown(g, 0, 1, x, 1), 9);
        due("not let in", g.houseOf(1, 6), 0);
        due("it has it not", g.note(x, 10), 1);
        due("let in", shown(g, 0, 1, x, 0), 0);
        due("it has it", g.note(x, 10), 1 + 64);
        due("let in", shown(g, 0, 1, y, 0), 0);
        due("both", g.houseOf(1, 6), 1 + 4);
        due("nowhere else", g.houseOf(0, 6), 0);
    }

    private static void firstOfThese() {
        sentence("SHOW has a VERDICT, c being the HOUSE's clock; the first of these");
        NoteGate g = gate(0);
        g.house(0, true, 255);
        g.house(0, true, 255);
        g.terms(10, 200, 0, 100, 3, 100, 0);
        int x = get(g, 0, 0, 1);
        due("let in", shown(g, 0, 0, x, 0), 0);
        g.end(0);
        g.deliver(0);
        g.tick(10);
        due("3 ahead of 5", shown(g, 0, 1, x, 0), 3);
        due("5 ahead of 6", shown(g, 0, 0, x, 0), 5);
        g.checks(without(1));
        due("6 ahead of 8", shown(g, 0, 0, x, 0), 6);
        g.checks(without(1, 3));
        due("8 ahead of 10", shown(g, 0, 0, x, 0), 8);
        g.checks(without(1, 2, 3));
        due("10 of those that are left", shown(g, 0, 0, x, 0), 10);
        g.checks(ALL_CHECKS);
        due("2 ahead of 3", shown(g, 0, 1, x + 1, 1), 2);
        due("5 ahead of 9", shown(g, 0, 0, x, 1), 5);
        g.checks(without(1));
        due("6 ahead of 9", shown(g, 0, 0, x, 1), 6);
        g.checks(without(1, 3));
        due("8 ahead of 9", shown(g, 0, 0, x, 1), 8);
        g.checks(without(1, 2, 3));
        due("9 ahead of 10", shown(g, 0, 0, x, 1), 9);
        g.throwOut(1);
        due("1 ahead of 2", shown(g, 0, 1, x + 1, 1), 1);
        g = gate(0);
        g.house(-5, true, 255);
        g.house(-5, true, 255);
        x = get(g, 0, 0, 1);
        g.end(0);
        g.deliver(0);
        due("3 ahead of 4", shown(g, 0, 1, x, 1), 3);
        due("4 ahead of 6", shown(g, 0, 0, x, 1), 4);
        g = gate(0);
        g.house(0, true, 255);
        g.terms(100, 200, 0, 100, 3, 100, 0);
        x = get(g, 0, 0, 1);
        shown(g, 0, 0, x, 0);
        g.tick(4);
        due("7 ahead of 8, 9, 10", shown(g, 0, 0, x, 1), 7);
        g.end(0);
        g.deliver(0);
        due("6 ahead of 7", shown(g, 0, 0, x, 1), 6);
    }

    private static void countsIfOn() {
        sentence("A CHECK counts if it is on");
        for (int check = -1; check <= 7; check++) {
            NoteGate g = gate(0);
            g.house(0, true, 255);
            g.terms(10, 200, 0, 100, 3, 100, 0);
            int x = get(g, 0, 0, 1);
            shown(g, 0, 0, x, 0);
            g.end(0);
            g.deliver(0);
            g.tick(10);
            g.checks(check < 0 ? 0 : 1 << check);
            int[] alone = {0, 5, 8, 6, 0, 0, 0, 10};
            due("check " + check + " alone", shown(g, 0, 0, x, 0), check < 0 ? 0 : alone[check]);
            // 9 needs no check: it stands behind 5, 6 and 8, and ahead of 10
            boolean ahead = check >= 0 && alone[check] > 0 && alone[check] < 9;
            due("a right that it has not", shown(g, 0, 0, x, 1), ahead ? alone[check] : 9);
            due("a refresh", shown(g, 0, 0, x + 1, 0), 2);
        }
    }

    private static void logOfSixty() {
        sentence("THE LOG has the latest 60 of SHOWS that came");
        NoteGate g = gate(1);
        int x = get(g, 0, 0, 255);
        for (int i = 0; i < 60; i++) {
            shown(g, 0, 0, x, i % 8);
        }
        due("60", g.count(5), 60);
        due("the first is kept", g.log(0, 4), 0);
        shown(g, 0, 0, x, 7);
        due("still 60", g.count(5), 60);
        due("61 came", g.count(6), 61);
        due("the second is the first that is kept", g.log(0, 4), 1);
        due("the latest", g.log(59, 4), 7);
        g.show(0, 0, x, 0);
        due("one that is posted is not there yet", g.count(6), 61);
        g.lose(0);
        due("nor one that goes", g.count(6), 61);
        for (int i = 0; i < 60; i++) {
            shown(g, 0, 0, x, 7 - i % 8);
        }
        for (int i = 0; i < 60; i++) {
            due("twice around", g.log(i, 4), 7 - i % 8);
        }
    }

    private static void ticks() {
        hearing();
        hearingOfAll();
        lateLetters();
        oneTickOneRound();
    }

    private static void hearing() {
        sentence("if the KEEPER is UP and TIME is a multiple of EACH, all HOUSES that are IN KNOW all FAMILIES that are ENDED, "
            + "and HEARD is now");
        NoteGate g = gate(3);
        get(g, 0, 0, 1);
        g.end(0);
        g.lose(0);
        g.throwOut(1);
        g.tick(9);
        due("9", g.houseOf(0, 5), 0);
        g.keeper(false);
        g.tick(1);
        due("10, but the keeper is down", g.houseOf(0, 5), 0);
        due("nothing is heard", g.houseOf(0, 4), 0);
        g.keeper(true);
        g.tick(9);
        due("19", g.houseOf(0, 5), 0);
        g.tick(1);
        due("20", g.houseOf(0, 5), 1);
        due("one for which there is no note", g.houseOf(2, 5), 1);
        due("one that is out", g.houseOf(1, 5), 0);
        due("heard", g.houseOf(0, 4), 20);
        due("heard", g.houseOf(2, 4), 20);
        due("one that is out", g.houseOf(1, 4), 0);
    }

    private static void hearingOfAll() {
        sentence("KNOW all FAMILIES that are ENDED");
        NoteGate g = gate(1);
        for (int i = 0; i < 5; i++) {
            get(g, 0, 0, 1);
        }
        g.end(1);
        g.deliver(0);
        g.end(2);
        g.end(4);
        g.tick(4);
        due("letters are not late", g.houseOf(0, 5), 2);
        g.lose(0);
        g.lose(0);
        g.tick(6);
        due("1, 2 and 4", g.houseOf(0, 5), 2 + 4 + 16);
        g.end(0);
        g.lose(0);
        g.tick(10);
        due("0 besides", g.houseOf(0, 5), 1 + 2 + 4 + 16);
    }

    private static void lateLetters() {
        sentence("as long as there is one, the first LETTER that was posted LATE TICKS ago or more comes");
        NoteGate g = gate(1);
        g.terms(20, 200, 2, 10, 0, 10, 10);
        for (int i = 0; i < 12; i++) {
            g.ask(i % 4, 0, 1);
            if (i == 5) {
                g.tick(1);
            }
        }
        g.tick(8);
        due("none yet", g.count(2), 0);
        g.tick(1);
        due("six at once", g.count(2), 12);
        due("their gives are behind", g.letter(5, 2), 0);
        due("their gives are behind", g.letter(6, 2), 1);
        due("by numbers", g.note(0, 1), 0);
        due("by numbers", g.note(10, 1), 1);
        g.tick(1);
        due("six more", g.count(2), 24);
        g.terms(20, 200, 2, 10, 0, 1, 10);
        g.tick(1);
        due("LATE is less: all twelve, long ago or not", g.count(4), 0);
    }

    private static void oneTickOneRound() {
        sentence("A TICK: TIME is one more");
        NoteGate g = gate(1);
        g.terms(20, 200, 2, 1, 0, 1, 10);
        int x = get(g, 0, 0, 1);
        g.turn(0, x + 1);
        g.end(0);
        g.lose(1);
        g.show(0, 0, x, 0);
        g.tick(1);
        due("the turn came", g.count(4), 0);
        due("behind the hearing", g.log(0, 5), 6);
        due("at the new time", g.log(0, 0), 1);
        g.ask(0, 0, 1);
        g.tick(1);
        due("the ask came, its give waits", g.count(4), 1);
        due("posted now", g.letter(0, 6), 2);
        g.tick(1);
        due("the give came", g.count(4), 0);
        due("a new note has the new time", g.note(2, 4), 2);
    }

    private static void slots() {
        sentence("SLOTS 0 .. 3 have rows of numbers of 1, 2, 4 or 8 bytes (WIDTH 0 .. 3), at most 60, or nothing");
        NoteGate g = new NoteGate();
        for (int slot = 0; slot <= 3; slot++) {
            due("nothing", g.write(slot, 0, 1), -5);
            due("row", g.row(slot, 3 - slot, 60), 0);
            due("the first", g.write(slot, 0, 1), 0);
            due("the last", g.write(slot, 59, 1), 0);
            due("no more", g.write(slot, 60, 1), -6);
        }
        due("no slot 4", g.row(4, 0, 1), -2);
        due("no slot -1", g.row(-1, 0, 1), -2);
        due("no width 4", g.row(0, 4, 1), -2);
        due("no width -1", g.row(0, -1, 1), -2);
        due("no 61 numbers", g.row(0, 0, 61), -2);
        long[] mostTicks = {127, 500, 500, 500};
        for (int width = 0; width <= 3; width++) {
            int bits = 8 << width;
            fill(g, 0, width, 5, 1L << bits - 1);
            due("half of " + bits + " bits is below 0", g.script(0), 0);
            fill(g, 0, width, 5, mostTicks[width]);
            due("below it is not", g.script(0), 1);
        }
    }
}
