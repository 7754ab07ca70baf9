import java.util.Arrays;

/** The promises but those of the judge: for each sentence that names an edge a test of its own, on both sides of the edge. */
public final class PromiseEdgesTest extends Answers {
    private static final Document DOCUMENT = new Document();
    private static final int[] NO_BROWSERS = {-1, 5, MIN, MAX};

    private static int promise;

    public static void main(String[] args) {
        settings();
        people();
        posting();
        letters();
        reading();
        slots();
        about("all promises but 20 to 23");
        DOCUMENT.unquoted(1, 19).forEach(part -> wrong("no test quotes " + part));
        DOCUMENT.unquoted(24, MAX).forEach(part -> wrong("no test quotes " + part));
        end();
    }

    private static void sentence(String words) {
        about("promise " + promise + ": " + words);
        yes("it stands in the document", DOCUMENT.quote("Promise " + promise, words));
    }

    private static void settings() {
        newObject();
        terms();
        checks();
        house();
        throwOut();
        keeper();
        tap();
    }

    private static void newObject() {
        promise = 1;
        NoteGate g = new NoteGate();
        sentence("Nothing proved, no HOUSES, NOTES, LETTERS");
        for (int b = 0; b <= 4; b++) {
            due("not proved", g.browser(b, 0), NONE);
        }
        for (int what = 0; what <= 6; what++) {
            due("count(" + what + ")", g.count(what), 0);
        }
        due("no house", g.houseOf(0, 0), -100);
        due("no note", g.note(0, 0), -2);
        due("no letter", g.deliver(0), NONE);
        sentence("the KEEPER is UP, nobody is TAPPED");
        due("up", g.count(8), 1);
        due("nobody", g.count(9), 0);
        sentence("SLOTS have nothing");
        due("none", g.count(12), 0);
        for (int slot = 0; slot <= 3; slot++) {
            no("nothing to tear", g.tear(slot));
        }
    }

    private static void terms() {
        promise = 2;
        sentence("The TERMS are these: true");
        NoteGate g = gate(1);
        yes("the least", g.terms(1, 1, 0, 1, 0, 1, 0));
        yes("the most", g.terms(1000, 10000, 20, 100, 1000, 100, 1000));
        int x = get(g, 0, 0, 1);
        due("life", g.note(x, 5), 1000);
        due("long", g.note(x + 1, 5), 10000);
        sentence("False, and nothing happens: one is not as told");
        no("the first", g.terms(0, 1, 0, 1, 0, 1, 0));
        no("the last", g.terms(1, 1, 0, 1, 0, 1, 1001));
        no("all", g.terms(MIN, MIN, MIN, MIN, MIN, MIN, MIN));
        no("all", g.terms(MAX, MAX, MAX, MAX, MAX, MAX, MAX));
        x = get(g, 0, 0, 1);
        due("life", g.note(x, 5), 1000);
        due("long", g.note(x + 1, 5), 10000);
        due("skew", g.longest(x, 0, 0), 1019);
    }

    private static void checks() {
        promise = 3;
        sentence("CHECKS whose bit is in the set are on, the others off: the set of before");
        NoteGate g = new NoteGate();
        int before = 255;
        for (int set : new int[] {0, 1, 128, 255, 254, 127}) {
            due("before", g.checks(set), before);
            due("on", g.count(7), set);
            before = set;
        }
        sentence("-2: it is not 0 .. 255");
        for (int set : new int[] {-1, 256, 511, MIN, MAX}) {
            due("checks(" + set + ")", g.checks(set), -2);
            due("on", g.count(7), 127);
        }
    }

    private static void house() {
        promise = 4;
        NoteGate g = new NoteGate();
        g.tick(3);
        sentence("A HOUSE more, IN");
        due("0", g.house(20, true, 255), 0);
        due("in", g.houseOf(0, 0), 1);
        sentence("HEARD is now: its number");
        due("heard", g.houseOf(0, 4), 3);
        g.tick(1);
        due("1", g.house(-20, false, 0), 1);
        due("heard", g.houseOf(1, 4), 4);
        due("the first has its own", g.houseOf(0, 4), 3);
        sentence("-2: off is not -20 .. 20, dear not 0 .. 255");
        for (int off : new int[] {-21, 21, MIN, MAX}) {
            due("off " + off, g.house(off, false, 0), -2);
        }
        for (int dear : new int[] {-1, 256, MIN, MAX}) {
            due("dear " + dear, g.house(0, false, dear), -2);
        }
        due("none came", g.count(1), 2);
        sentence("-3: there are 4");
        due("2", g.house(0, false, 0), 2);
        due("3", g.house(0, false, 0), 3);
        due("no more", g.house(0, false, 0), -3);
        due("wrong besides", g.house(21, false, 0), -2);
        due("4", g.count(1), 4);
        for (int h = 0; h <= 3; h++) {
            due("once", g.houseOf(h, 2), h == 0 ? 1 : 0);
        }
    }

    private static void throwOut() {
        promise = 5;
        sentence("A HOUSE is OUT: true");
        NoteGate g = gate(4);
        yes("the last", g.throwOut(3));
        yes("the first", g.throwOut(0));
        for (int h = 0; h <= 3; h++) {
            due("in", g.houseOf(h, 0), h == 1 || h == 2 ? 1 : 0);
        }
        sentence("False: there is none such, or it is");
        no("it is", g.throwOut(3));
        no("it is", g.throwOut(0));
        for (int h : new int[] {-1, 4, 32, MIN, MAX}) {
            no("house " + h, g.throwOut(h));
        }
        no("none at all", new NoteGate().throwOut(0));
        g = gate(1);
        g.throwOut(0);
        g.house(0, false, 0);
        due("a new one is in", g.houseOf(1, 0), 1);
        no("a third there is not", g.throwOut(2));
        g.house(0, false, 0);
        yes("now there is", g.throwOut(2));
    }

    private static void keeper() {
        promise = 6;
        sentence("The KEEPER is UP or DOWN: whether it was UP");
        NoteGate g = new NoteGate();
        yes("up, up", g.keeper(true));
        due("up", g.count(8), 1);
        yes("up, down", g.keeper(false));
        due("down", g.count(8), 0);
        no("down, down", g.keeper(false));
        no("down, up", g.keeper(true));
        yes("up", g.keeper(true));
    }

    private static void tap() {
        promise = 7;
        sentence("TAPPED are the HOLDERS of a set (bits 0 .. 8): the set of before");
        NoteGate g = new NoteGate();
        int before = 0;
        for (int set : new int[] {511, 1, 256, 0, 255}) {
            due("before", g.tap(set), before);
            due("now", g.count(9), set);
            before = set;
        }
        sentence("-2: it is not 0 .. 511");
        for (int set : new int[] {-1, 512, MIN, MAX}) {
            due("tap(" + set + ")", g.tap(set), -2);
            due("now", g.count(9), 255);
        }
    }

    private static void people() {
        prove();
        leave();
        endOne();
    }

    private static void prove() {
        promise = 8;
        sentence("The person of a BROWSER is PROVED now");
        NoteGate g = new NoteGate();
        yes("the first", g.prove(0));
        g.tick(2);
        yes("the last", g.prove(4));
        yes("again", g.prove(0));
        int[] proved = {2, NONE, NONE, NONE, 2};
        for (int b = 0; b <= 4; b++) {
            due("proved", g.browser(b, 0), proved[b]);
        }
        sentence("False, and nothing happens: there is none such, or the KEEPER is DOWN");
        for (int b : NO_BROWSERS) {
            no("browser " + b, g.prove(b));
        }
        g.keeper(false);
        g.tick(1);
        no("down", g.prove(0));
        no("down", g.prove(1));
        for (int b = 0; b <= 4; b++) {
            due("proved", g.browser(b, 0), proved[b]);
        }
    }

    private static void leave() {
        promise = 9;
        sentence("The person of a BROWSER is PROVED no more, and each FAMILY of that person that is not ENDED is ENDED, by "
            + "numbers: how many");
        NoteGate g = gate(2);
        due("no family", g.leave(1), 0);
        due("proved no more", g.browser(1, 0), NONE);
        due("never proved since", g.leave(1), 0);
        for (int person : new int[] {0, 4, 0, 0, 4}) {
            get(g, person, 0, 1);
        }
        g.tick(1);
        g.end(2);
        g.tick(1);
        due("two of three", g.leave(0), 2);
        int[] ended = {2, NONE, 1, 2, NONE};
        for (int f = 0; f < ended.length; f++) {
            due("family " + f, g.family(f, 1), ended[f]);
        }
        int[] told = {2, 0, 3};
        for (int i = 0; i < told.length; i++) {
            due("over of", g.letter(i, 3), told[i]);
        }
        due("the thief", g.leave(4), 2);
        due("again", g.leave(4), 0);
        sentence("-2: there is none such");
        for (int b : NO_BROWSERS) {
            due("browser " + b, g.leave(b), -2);
        }
        sentence("-3: the KEEPER is DOWN");
        g.keeper(false);
        due("down", g.leave(3), -3);
        due("still proved", g.browser(3, 0), 0);
        due("wrong besides", g.leave(5), -2);
    }

    private static void endOne() {
        promise = 10;
        sentence("A FAMILY is ENDED");
        NoteGate g = gate(1);
        get(g, 0, 0, 1);
        get(g, 1, 0, 1);
        g.tick(2);
        yes("the last", g.end(1));
        due("now", g.family(1, 1), 2);
        due("the other is not", g.family(0, 1), NONE);
        due("still proved", g.browser(1, 0), 0);
        sentence("False, and nothing happens: there is none such, it is ENDED, or the KEEPER is DOWN");
        for (int f : new int[] {-1, 2, 16, MIN, MAX}) {
            no("family " + f, g.end(f));
        }
        g.tick(1);
        no("it is ended", g.end(1));
        due("as it was", g.family(1, 1), 2);
        g.keeper(false);
        no("down", g.end(0));
        due("as it was", g.family(0, 1), NONE);
        due("one over", g.count(4), 1);
        no("none at all", new NoteGate().end(0));
    }

    private static void posting() {
        ask();
        turn();
        show();
        hand();
        fake();
    }

    private static void ask() {
        promise = 11;
        sentence("A BROWSER gets a PAIR, and ASK is posted: the PAIR");
        NoteGate g = new NoteGate();
        due("no house yet", g.ask(0, 0, 1), -2);
        g.house(0, false, 0);
        g.house(0, false, 0);
        due("not proved: no matter", g.ask(0, 0, 1), 1);
        due("the last of all", g.ask(4, 1, 255), 2);
        told(g, 0, 0, 9, 0, 0, 1, 1, 0);
        told(g, 1, 4, 9, 0, 1, 255, 2, 0);
        g.throwOut(1);
        g.keeper(false);
        due("out, down: no matter", g.ask(3, 1, 128), 3);
        sentence("-2: there is no such BROWSER, HOUSE, or rights are not 1 .. 255");
        for (int b : NO_BROWSERS) {
            due("browser " + b, g.ask(b, 0, 1), -2);
        }
        for (int h : new int[] {-1, 2, 4, MIN, MAX}) {
            due("house " + h, g.ask(0, h, 1), -2);
        }
        for (int rights : new int[] {0, -1, 256, MIN, MAX}) {
            due("rights " + rights, g.ask(0, 0, rights), -2);
        }
        due("nothing posted", g.count(4), 3);
        due("as it was", g.browser(0, 1), 1);
        due("no pair was given", g.ask(0, 0, 1), 4);
    }

    private static void turn() {
        promise = 12;
        sentence("Likewise TURN: the PAIR");
        NoteGate g = gate(1);
        due("no note yet", g.turn(0, 0), -2);
        int x = get(g, 0, 0, 1);
        int y = get(g, 4, 0, 1);
        g.tick(1);
        due("pair", g.turn(0, x + 1), 3);
        due("the thief's", g.turn(4, y + 1), 4);
        told(g, 0, 0, 9, 3, x + 1, NONE, 3, 1);
        told(g, 1, 4, 9, 3, y + 1, NONE, 4, 1);
        due("has it", g.browser(0, 1), 3);
        sentence("-2: there is no such BROWSER, NOTE");
        for (int b : NO_BROWSERS) {
            due("browser " + b, g.turn(b, x + 1), -2);
        }
        for (int n : new int[] {-1, 4, 32, MIN, MAX}) {
            due("note " + n, g.turn(0, n), -2);
        }
        sentence("-3: it has it not, or it is no REFRESH");
        due("has it not", g.turn(1, x + 1), -3);
        due("no refresh", g.turn(0, x), -3);
        due("neither", g.turn(1, x), -3);
        due("nothing posted", g.count(4), 2);
        due("no pair was given", g.turn(0, x + 1), 5);
    }

    private static void show() {
        promise = 13;
        sentence("A HOLDER posts SHOW to a HOUSE, for a right");
        NoteGate g = gate(4);
        int x = get(g, 0, 3, 129);
        g.tick(1);
        yes("the first right", g.show(0, 3, x, 0));
        yes("the last right", g.show(0, 3, x, 7));
        told(g, 0, 0, 8, 2, x, 0, 0, 1);
        told(g, 1, 0, 8, 2, x, 7, 0, 1);
        due("let in", g.deliver(0), 0);
        yes("the last holder", g.show(8, 0, x, 0));
        told(g, 1, 8, 5, 2, x, 0, 0, 1);
        sentence("False, and nothing happens: there is no such HOLDER, HOUSE, NOTE, right (0 .. 7), or that one has it not");
        for (int holder : new int[] {-1, 9, 10, 32, MIN, MAX}) {
            no("holder " + holder, g.show(holder, 0, x, 0));
        }
        for (int h : new int[] {-1, 4, MIN, MAX}) {
            no("house " + h, g.show(0, h, x, 0));
        }
        for (int n : new int[] {-1, 2, 32, MIN, MAX}) {
            no("note " + n, g.show(0, 0, n, 0));
        }
        for (int right : new int[] {-1, 8, 32, MIN, MAX}) {
            no("right " + right, g.show(0, 0, x, right));
        }
        for (int holder = 1; holder <= 7; holder++) {
            no("has it not: " + holder, g.show(holder, 0, x, 0));
        }
        due("nothing posted", g.count(4), 2);
        due("none lost", g.count(10), 0);
    }

    private static void hand() {
        promise = 14;
        sentence("A HOUSE posts HAND for another HOUSE (the helper), with rights");
        NoteGate g = gate(4);
        int x = get(g, 0, 3, 1);
        no("it has it not yet", g.hand(3, x, 0, 1));
        shown(g, 0, 3, x, 0);
        g.tick(1);
        yes("the least rights", g.hand(3, x, 0, 1));
        yes("the most", g.hand(3, x, 2, 255));
        told(g, 0, 8, 9, 4, x, 0, 1, 1);
        told(g, 1, 8, 9, 4, x, 2, 255, 1);
        sentence("False, and nothing happens: there are no such HOUSES, they are one, there is no such NOTE, it has it not, or "
            + "rights are not 1 .. 255");
        for (int h : new int[] {-1, 4, MIN, MAX}) {
            no("house " + h, g.hand(h, x, 0, 1));
            no("helper " + h, g.hand(3, x, h, 1));
        }
        no("they are one", g.hand(3, x, 3, 1));
        for (int n : new int[] {-1, 2, 32, MIN, MAX}) {
            no("note " + n, g.hand(3, n, 0, 1));
        }
        no("it has it not", g.hand(2, x, 3, 1));
        no("a refresh it has not", g.hand(3, x + 1, 0, 1));
        for (int rights : new int[] {0, -1, 256, MIN, MAX}) {
            no("rights " + rights, g.hand(3, x, 0, rights));
        }
        due("nothing posted", g.count(4), 2);
    }

    private static void fake() {
        promise = 15;
        sentence("The thief posts GIVE to a BROWSER 0 .. 3, of a NOTE that he HAS");
        NoteGate g = gate(1);
        int x = get(g, 4, 0, 1);
        int y = get(g, 0, 0, 1);
        g.tick(1);
        g.tap(8);
        g.ask(3, 0, 1);
        g.lose(0);
        yes("the first, of whom he knows no pair", g.fake(0, x));
        yes("the last, of a refresh", g.fake(3, x + 1));
        told(g, 0, 4, 0, 1, x, NONE, 0, 1);
        told(g, 1, 4, 3, 1, x + 1, NONE, 3, 1);
        sentence("False, and nothing happens, for others");
        for (int b : new int[] {-1, 4, 5, MIN, MAX}) {
            no("browser " + b, g.fake(b, x));
        }
        for (int n : new int[] {-1, 4, 32, MIN, MAX}) {
            no("note " + n, g.fake(0, n));
        }
        no("he has it not", g.fake(1, y));
        due("nothing posted", g.count(4), 2);
    }

    private static void letters() {
        deliverShow();
        deliverOthers();
        deliverNone();
        copy();
        lose();
        tick();
    }

    private static void deliverShow() {
        promise = 16;
        sentence("A LETTER comes: of SHOW the VERDICT");
        NoteGate g = gate(2);
        int x = get(g, 0, 0, 1);
        g.show(0, 0, x, 0);
        g.show(0, 1, x, 0);
        g.show(0, 0, x, 1);
        due("the last first", g.deliver(2), 9);
        due("then the second", g.deliver(1), 3);
        due("then the first", g.deliver(0), 0);
        due("none is left", g.count(4), 0);
    }

    private static void deliverOthers() {
        promise = 16;
        sentence("of others 1 if something came of it (of ASK, TURN, HAND that NOTES were given, of TURN too that a FAMILY was "
            + "ENDED, of GIVE that it was taken, of OVER always), else 0");
        NoteGate g = gate(2);
        g.leave(1);
        g.ask(1, 0, 1);
        due("ask, not proved", g.deliver(0), 0);
        g.ask(0, 0, 1);
        due("ask", g.deliver(0), 1);
        g.copy(0);
        due("give", g.deliver(0), 1);
        due("give, not taken", g.deliver(0), 0);
        g.turn(0, 1);
        g.copy(0);
        g.copy(0);
        due("turn", g.deliver(0), 1);
        due("turn by which a family is ended", g.deliver(0), 1);
        due("turn of an ended one", g.deliver(0), 0);
        g.lose(0);
        due("over", g.deliver(0), 1);
        int x = get(g, 0, 0, 1);
        shown(g, 0, 0, x, 0);
        g.hand(0, x, 1, 1);
        g.hand(0, x, 1, 2);
        due("hand, no rights are left", g.deliver(1), 0);
        due("hand", g.deliver(0), 1);
        due("give to a house", g.deliver(0), 1);
        g.end(1);
        g.copy(0);
        due("over", g.deliver(0), 1);
        g.throwOut(0);
        due("over, known already or out", g.deliver(1), 1);
        due("over to the helper", g.deliver(0), 1);
        due("all came", g.count(4), 0);
    }

    private static void deliverNone() {
        promise = 16;
        sentence("NONE: there is none such");
        NoteGate g = gate(1);
        due("an empty post", g.deliver(0), NONE);
        g.ask(0, 0, 1);
        for (int i : new int[] {-1, 1, 12, MIN, MAX}) {
            due("letter " + i, g.deliver(i), NONE);
        }
        due("it is there still", g.count(4), 1);
    }

    private static void copy() {
        promise = 17;
        sentence("A LETTER is posted again, as it is (behind all, now): true");
        NoteGate g = gate(3);
        g.ask(3, 2, 7);
        int x = 0;
        g.deliver(0);
        g.copy(0);
        g.deliver(0);
        g.tick(2);
        yes("a give, its pair used", g.copy(0));
        told(g, 1, 9, 3, 1, x, x + 1, 1, 2);
        due("the first as it was", g.letter(0, 6), 0);
        g.lose(0);
        g.show(3, 2, x, 2);
        yes("the second", g.copy(1));
        told(g, 2, 3, 7, 2, x, 2, 0, 2);
        g.turn(3, 1);
        yes("the fourth", g.copy(3));
        told(g, 4, 3, 9, 3, 1, NONE, 2, 2);
        g.deliver(1);
        g.hand(2, x, 1, 6);
        yes("a hand", g.copy(4));
        told(g, 5, 7, 9, 4, x, 1, 6, 2);
        g.end(0);
        yes("an over", g.copy(6));
        told(g, 7, 9, 7, 5, 0, NONE, 0, 2);
        yes("a copy", g.copy(7));
        sentence("False, and nothing happens: there is none such, or the POST has 12");
        for (int i : new int[] {-1, 9, 12, MIN, MAX}) {
            no("letter " + i, g.copy(i));
        }
        due("nine", g.count(4), 9);
        for (int i = 9; i < 12; i++) {
            yes("room for it", g.copy(0));
        }
        no("12", g.copy(0));
        no("12", g.copy(11));
        due("that is not lost", g.count(10), 0);
        no("none at all", new NoteGate().copy(0));
    }

    private static void lose() {
        promise = 18;
        sentence("A LETTER goes, and never comes: true");
        NoteGate g = gate(1);
        g.ask(0, 0, 1);
        g.ask(1, 0, 1);
        yes("the last", g.lose(1));
        due("the first is there", g.letter(0, 0), 0);
        yes("the first", g.lose(0));
        g.tick(20);
        due("nothing came", g.count(2), 0);
        due("that is not lost", g.count(10), 0);
        sentence("False: there is none such");
        no("an empty post", g.lose(0));
        g.ask(0, 0, 1);
        for (int i : new int[] {-1, 1, 12, MIN, MAX}) {
            no("letter " + i, g.lose(i));
        }
        due("it is there still", g.count(4), 1);
    }

    private static void tick() {
        promise = 19;
        sentence("So many TICKS (1 .. 500) go by: TIME");
        NoteGate g = gate(1);
        due("the least", g.tick(1), 1);
        due("the most", g.tick(500), 501);
        sentence("-2: another number");
        for (int n : new int[] {0, -1, 501, MIN, MAX}) {
            due("tick(" + n + ")", g.tick(n), -2);
        }
        due("time", g.count(0), 501);
        sentence("-3: it would be above 30,000");
        g.tick(498);
        for (int i = 0; i < 58; i++) {
            g.tick(500);
        }
        due("time", g.count(0), 29999);
        due("two", g.tick(2), -3);
        due("most", g.tick(500), -3);
        due("wrong besides", g.tick(501), -2);
        due("time", g.count(0), 29999);
        due("one", g.tick(1), 30000);
        due("one more", g.tick(1), -3);
        due("time", g.count(0), 30000);
        due("he looks on", g.judge(0, 0, 0, 0, 1), NONE);
        due("a tick ahead", g.count(11), 2);
    }

    private static void reading() {
        note();
        letter();
        family();
        houseOf();
        browser();
        log();
        where();
        count();
        countStates();
    }

    private static void note() {
        promise = 24;
        sentence("Of a NOTE: 0 its KIND, 1 person, 2 HOUSE, 3 rights, 4 FROM, 5 TILL, 6 FAMILY, 7 PROOF, 8 parent, 9 whether it "
            + "was TURNED (1, 0), 10 the set of HOLDERS that HAVE it");
        NoteGate g = gate(4);
        get(g, 1, 2, 1);
        g.tick(1);
        g.prove(3);
        g.tick(2);
        int x = get(g, 3, 1, 131);
        g.turn(3, x + 1);
        g.tap(64);
        shown(g, 3, 1, x, 0);
        g.hand(1, x, 3, 2);
        g.deliver(1);
        g.deliver(1);
        g.deliver(0);
        noted(g, x, 0, 3, 1, 131, 3, 23, 1, 1, NONE, 0, 8 + 16 + 64);
        noted(g, x + 1, 1, 3, 1, 131, 3, 203, 1, 1, NONE, 1, 8);
        noted(g, 4, 2, 3, 3, 2, 3, 23, 1, 1, x, 0, 16 + 64);
        noted(g, 5, 0, 3, 1, 131, 3, 23, 1, 1, NONE, 0, 0);
        noted(g, 6, 1, 3, 1, 131, 3, 203, 1, 1, NONE, 0, 0);
        sentence("-2 for others");
        for (int n : new int[] {-1, 7, 32, MIN, MAX}) {
            due("note " + n, g.note(n, 0), -2);
        }
        for (int what : new int[] {-1, 11, MIN, MAX}) {
            due("what " + what, g.note(x, what), -2);
            due("what " + what, g.note(0, what), -2);
            due("what " + what, g.note(6, what), -2);
        }
        due("none at all", new NoteGate().note(0, 0), -2);
    }

    private static void letter() {
        promise = 25;
        sentence("Of a LETTER: 0 from whom, 1 to whom, 2 its KIND, 3 x, 4 y, 5 z, 6 the TIME when it was posted");
        NoteGate g = gate(2);
        g.ask(0, 0, 2);
        g.tick(4);
        g.ask(4, 1, 255);
        told(g, 0, 0, 9, 0, 0, 2, 1, 0);
        told(g, 1, 4, 9, 0, 1, 255, 2, 4);
        sentence("-2 for others");
        for (int i : new int[] {-1, 2, 12, MIN, MAX}) {
            due("letter " + i, g.letter(i, 0), -2);
        }
        for (int what : new int[] {-1, 7, MIN, MAX}) {
            due("what " + what, g.letter(0, what), -2);
            due("what " + what, g.letter(1, what), -2);
        }
        due("none at all", new NoteGate().letter(0, 0), -2);
    }

    private static void family() {
        promise = 26;
        sentence("Of a FAMILY: 0 its person, 1 the TIME at which it was ENDED (NONE)");
        NoteGate g = gate(1);
        get(g, 4, 0, 1);
        get(g, 2, 0, 1);
        g.tick(1);
        g.end(1);
        due("person", g.family(0, 0), 4);
        due("not ended", g.family(0, 1), NONE);
        due("person", g.family(1, 0), 2);
        due("ended", g.family(1, 1), 1);
        sentence("-2 for others");
        for (int f : new int[] {-1, 2, 16, MIN, MAX}) {
            due("family " + f, g.family(f, 0), -2);
        }
        for (int what : new int[] {-1, 2, MIN, MAX}) {
            due("what " + what, g.family(0, what), -2);
            due("what " + what, g.family(1, what), -2);
        }
        due("none at all", new NoteGate().family(0, 0), -2);
    }

    private static void houseOf() {
        promise = 27;
        sentence("Of a HOUSE: 0 whether it is IN (1, 0), 1 OFF, 2 whether it is ONCE, 3 DEAR rights, 4 HEARD, 5 the set of "
            + "FAMILIES that it KNOWS, 6 the set of NOTES that were LET IN there (32 bits), 7 its clock");
        NoteGate g = gate(0);
        g.tick(1);
        g.house(-20, true, 255);
        g.house(20, false, 0);
        int[][] houses = {{1, -20, 1, 255, 1, 0, 0, -19}, {1, 20, 0, 0, 1, 0, 0, 21}};
        for (int h = 0; h <= 1; h++) {
            for (int what = 0; what <= 7; what++) {
                due("houseOf(" + h + ", " + what + ")", g.houseOf(h, what), houses[h][what]);
            }
        }
        sentence("6 the set of NOTES that were LET IN there (32 bits)");
        g = gate(2);
        for (int i = 0; i < 15; i++) {
            get(g, 0, 0, 1);
        }
        shown(g, 0, 0, 0, 0);
        shown(g, 0, 0, 28, 0);
        for (int i = 0; i < 2; i++) {
            g.hand(0, 0, 1, 1);
            g.deliver(0);
            g.deliver(0);
        }
        due("bits 0 and 28", g.houseOf(0, 6), 1 + (1 << 28));
        due("let in", shown(g, 5, 1, 30, 0), 0);
        due("bit 30", g.houseOf(1, 6), 1 << 30);
        due("let in", shown(g, 5, 1, 31, 0), 0);
        due("bits 30 and 31", g.houseOf(1, 6), 3 << 30);
        sentence("-100 for others");
        for (int h : new int[] {-1, 2, 4, MIN, MAX}) {
            due("house " + h, g.houseOf(h, 0), -100);
        }
        for (int what : new int[] {-1, 8, MIN, MAX}) {
            due("what " + what, g.houseOf(0, what), -100);
        }
        due("none at all", new NoteGate().houseOf(0, 0), -100);
    }

    private static void browser() {
        promise = 28;
        sentence("Of a BROWSER: 0 the TIME at which its person was PROVED (NONE), 1 its PAIR (0 without), 2 the PAIR that the "
            + "thief knows of it (0 without, and of his own)");
        NoteGate g = new NoteGate();
        g.house(0, false, 0);
        g.tap(511);
        for (int b = 0; b <= 4; b++) {
            due("none", g.browser(b, 0), NONE);
            due("without", g.browser(b, 1), 0);
            due("without", g.browser(b, 2), 0);
        }
        for (int b = 0; b <= 4; b++) {
            g.tick(1);
            g.prove(b);
            g.ask(b, 0, 1);
            g.lose(0);
        }
        for (int b = 0; b <= 4; b++) {
            due("proved", g.browser(b, 0), b + 1);
            due("pair", g.browser(b, 1), b + 1);
            due("known, but of his own", g.browser(b, 2), b == 4 ? 0 : b + 1);
        }
        sentence("-2 for others");
        for (int b : NO_BROWSERS) {
            due("browser " + b, g.browser(b, 0), -2);
        }
        for (int what : new int[] {-1, 3, MIN, MAX}) {
            due("what " + what, g.browser(0, what), -2);
            due("what " + what, g.browser(4, what), -2);
        }
    }

    private static void log() {
        promise = 29;
        sentence("Entry i of the LOG (0 the earliest that is kept): 0 TIME, 1 HOUSE, 2 HOLDER, 3 NOTE, 4 right, 5 VERDICT");
        NoteGate g = gate(2);
        due("an empty one", g.log(0, 0), -2);
        get(g, 1, 0, 1);
        int x = get(g, 0, 1, 8);
        g.tick(2);
        shown(g, 0, 1, x, 3);
        g.tick(1);
        shown(g, 6, 0, x, 7);
        int[][] entries = {{2, 1, 0, x, 3, 0}, {3, 0, 6, x, 7, 3}};
        for (int i = 0; i <= 1; i++) {
            for (int what = 0; what <= 5; what++) {
                due("log(" + i + ", " + what + ")", g.log(i, what), entries[i][what]);
            }
        }
        sentence("-2 for others");
        for (int i : new int[] {-1, 2, 59, 60, MIN, MAX}) {
            due("entry " + i, g.log(i, 0), -2);
        }
        for (int what : new int[] {-1, 6, MIN, MAX}) {
            due("what " + what, g.log(0, what), -2);
            due("what " + what, g.log(1, what), -2);
        }
        for (int i = 2; i < 60; i++) {
            shown(g, 0, 1, x, i % 8);
        }
        due("the last", g.log(59, 4), 59 % 8);
        due("no entry 60", g.log(60, 4), -2);
        shown(g, 0, 1, x, 0);
        due("the first is gone", g.log(0, 0), 3);
        due("no entry 60", g.log(60, 4), -2);
    }

    private static void where() {
        promise = 30;
        sentence("The TIME of the latest entry of the LOG by which a NOTE of a person was LET IN at a HOUSE");
        NoteGate g = gate(2);
        int x = get(g, 0, 0, 1);
        int y = get(g, 4, 1, 1);
        due("at 0", shown(g, 0, 0, x, 0), 0);
        due("0 is a time", g.where(0, 0), 0);
        g.tick(1);
        due("shown by another", shown(g, 5, 0, x, 0), 0);
        due("the note's person", g.where(0, 0), 1);
        g.tick(1);
        shown(g, 0, 0, x, 1);
        due("refused", g.where(0, 0), 1);
        shown(g, 4, 1, y, 0);
        due("the last person, the last house", g.where(4, 1), 2);
        sentence("NONE: there is none");
        due("elsewhere", g.where(0, 1), NONE);
        due("another", g.where(3, 0), NONE);
        for (int i = 0; i < 57; i++) {
            shown(g, 0, 0, x, 1);
        }
        due("of 61 the second is kept", g.where(0, 0), 1);
        shown(g, 0, 0, x, 1);
        due("kept no more", g.where(0, 0), NONE);
        sentence("-2: there is no such person (0 .. 4), HOUSE");
        for (int p : NO_BROWSERS) {
            due("person " + p, g.where(p, 0), -2);
        }
        for (int h : new int[] {-1, 2, 4, MIN, MAX}) {
            due("house " + h, g.where(0, h), -2);
        }
    }

    private static void count() {
        promise = 31;
        sentence("0 TIME, 1 HOUSES, 2 NOTES, 3 FAMILIES, 4 LETTERS in the POST, 5 entries of the LOG that are kept, 6 SHOWS that "
            + "came, 7 the set of CHECKS that are on, 8 whether the KEEPER is UP (1, 0), 9 the set of TAPPED ones, 10 LETTERS "
            + "that were LOST");
        NoteGate g = gate(3);
        int x = get(g, 0, 0, 1);
        for (int i = 0; i < 61; i++) {
            shown(g, 0, 0, x, 0);
        }
        g.tick(7);
        for (int i = 0; i < 14; i++) {
            g.show(0, 0, x, 0);
        }
        g.checks(9);
        g.tap(300);
        g.keeper(false);
        int[] counts = {7, 3, 2, 1, 12, 60, 61, 9, 0, 300, 2};
        for (int what = 0; what < counts.length; what++) {
            due("count(" + what + ")", g.count(what), counts[what]);
        }
        sentence("12 SLOTS that have a ROW of numbers");
        for (int slot = 0; slot <= 3; slot++) {
            due("so many", g.count(12), slot);
            g.row(slot, slot, 0);
        }
        due("all", g.count(12), 4);
        g.row(0, 3, 60);
        due("all", g.count(12), 4);
        g.tear(3);
        due("one less", g.count(12), 3);
        sentence("NONE for others");
        for (int what : new int[] {-1, 13, MIN, MAX}) {
            due("count(" + what + ")", g.count(what), NONE);
        }
    }

    private static void countStates() {
        promise = 31;
        sentence("11 unlike STATES that the latest judge() came to, with the first (not the one behind a MOVE that led to the GOAL");
        NoteGate g = gate(1);
        due("ahead of any", g.count(11), 0);
        g.tap(1);
        g.ask(0, 0, 1);
        g.judge(0, 0, 0, 0, 0);
        due("the first", g.count(11), 1);
        g.judge(0, 0, 0, 0, 1);
        due("the letter comes; a tick", g.count(11), 3);
        g.judge(0, 0, 0, 0, 2);
        due("then 0, then 100 leads to the goal", g.count(11), 4);
        g.stops(0, 0, 0, 0, 1);
        g.judge(0, 0, 0, 0, 7);
        due("the latest that told something", g.count(11), 4);
        sentence("FULL: 300)");
        g = gate(4);
        g.tap(1);
        for (int i = 0; i < 5; i++) {
            get(g, 0, 3, 1);
        }
        g.checks(0);
        due("full", g.judge(0, 0, 1, 0, 6), -4);
        due("300", g.count(11), 300);
    }

    private static void slots() {
        row();
        tear();
        write();
        writeIsCut();
        paste();
        pasteOrder();
        script();
        scriptNumbers();
        scriptStops();
        why();
    }

    private static void row() {
        promise = 32;
        sentence("A SLOT has a row of n numbers of a WIDTH, all 0 (in place of another one): 0");
        NoteGate g = new NoteGate();
        due("the least", g.row(0, 0, 0), 0);
        due("it has no number", g.write(0, 0, 1), -6);
        due("the most", g.row(3, 3, 60), 0);
        due("the last", g.write(3, 59, 1), 0);
        due("no more", g.write(3, 60, 1), -6);
        due("shorter", g.row(3, 3, 1), 0);
        due("no more", g.write(3, 1, 1), -6);
        due("longer again", g.row(3, 2, 60), 0);
        due("all 0 is an ask for a house that there is not", g.script(3), 0);
        due("refused", g.why(), 3);
        g.house(0, false, 0);
        fill(g, 3, 2, 6, 0);
        due("a proof", g.script(3), 1);
        due("in place of it, all 0", g.row(3, 2, 4), 0);
        due("an ask with no rights", g.script(3), 0);
        due("refused", g.why(), 3);
        sentence("-2: there is no such SLOT or WIDTH, or n is above 60");
        for (int v : new int[] {-1, 4, MIN, MAX}) {
            due("slot " + v, g.row(v, 0, 1), -2);
            due("width " + v, g.row(0, v, 1), -2);
        }
        due("61", g.row(0, 0, 61), -2);
        due("far", g.row(0, 0, MAX), -2);
        sentence("-3, and the SLOT stays: n is below 0");
        fill(g, 1, 2, 5, 1);
        due("-1", g.row(1, 0, -1), -3);
        due("far", g.row(1, 0, MIN), -3);
        due("it stays", g.script(1), 1);
        due("nor is there one", g.row(2, 0, -1), -3);
        due("nothing", g.write(2, 0, 1), -5);
        due("wrong besides", g.row(4, 0, -1), -2);
        due("wrong besides", g.row(0, 4, -1), -2);
    }

    private static void tear() {
        promise = 33;
        sentence("The SLOT has nothing: true");
        NoteGate g = new NoteGate();
        g.row(0, 0, 0);
        g.row(3, 3, 60);
        yes("an empty row", g.tear(0));
        yes("the last", g.tear(3));
        due("nothing", g.write(3, 0, 1), -5);
        due("nothing", g.script(0), -5);
        sentence("false, if it had nothing, or there is none such");
        for (int slot = 0; slot <= 3; slot++) {
            no("had nothing", g.tear(slot));
        }
        for (int slot : new int[] {-1, 4, MIN, MAX}) {
            no("slot " + slot, g.tear(slot));
        }
        fill(g, 3, 0, 5, 1);
        due("a new row", g.script(3), 1);
    }

    private static void write() {
        promise = 34;
        NoteGate g = new NoteGate();
        g.row(0, 3, 2);
        sentence("-2: there is no such SLOT");
        for (int slot : new int[] {-1, 4, MIN, MAX}) {
            due("slot " + slot, g.write(slot, 0, 1), -2);
        }
        sentence("-5: it has nothing");
        for (int slot = 1; slot <= 3; slot++) {
            due("slot " + slot, g.write(slot, 0, 1), -5);
            due("nor such a number", g.write(slot, -1, 1), -5);
        }
        sentence("-6: there is no such number");
        for (int i : new int[] {-1, 2, 59, 60, MIN, MAX}) {
            due("number " + i, g.write(0, i, 1), -6);
        }
        due("the first", g.write(0, 0, 5), 0);
        due("the last", g.write(0, 1, 500), 0);
        due("they are so", g.script(0), 1);
        due("500", g.count(0), 500);
    }

    private static void writeIsCut() {
        promise = 34;
        sentence("Number i of the SLOT's row is v, cut to its WIDTH: 0");
        long[][] one = {{257, -255, 1L << 40 | 1}, {65537, -65535, 1L << 40 | 1}, {(1L << 32) + 1, 1 - (1L << 32), 1L << 40 | 1}};
        NoteGate g = new NoteGate();
        int time = 0;
        for (int width = 0; width <= 2; width++) {
            g.row(0, width, 2);
            g.write(0, 0, 5);
            for (long v : one[width]) {
                due("write " + v, g.write(0, 1, v), 0);
                due("it is 1", g.script(0), 1);
                time++;
                due("it is 1", g.count(0), time);
            }
        }
        int[][] edges = {{0, 127}, {1, 500}, {2, 500}, {3, 500}};
        for (int[] e : edges) {
            fill(g, 0, e[0], 5, e[1]);
            due("it is whole", g.script(0), 1);
            time += e[1];
            due("it is whole", g.count(0), time);
        }
        fill(g, 0, 0, 5, 128);
        due("128 of one byte is below 0", g.script(0), 0);
        due("refused", g.why(), 3);
        fill(g, 0, 0, 5, 256);
        due("256 of one byte is 0", g.script(0), 0);
        fill(g, 0, 3, 5, (1L << 32) + 1);
        due("eight bytes are not cut", g.script(0), 0);
        due("no int", g.why(), 4);
        fill(g, 0, 3, 5, Long.MIN_VALUE);
        due("the least", g.script(0), 0);
        due("no int", g.why(), 4);
    }

    private static void paste() {
        promise = 35;
        sentence("So many numbers of a SLOT's row, from place i on, are put to another one's (or its own), from place k on, as "
            + "they were: 0");
        NoteGate g = new NoteGate();
        fill(g, 0, 1, 5, 1, 5, 2);
        g.row(3, 1, 60);
        due("all, to the very end", g.paste(0, 0, 3, 56, 4), 0);
        due("all, back to the front", g.paste(3, 56, 3, 0, 4), 0);
        g.row(1, 1, 4);
        due("whole rows", g.paste(3, 0, 1, 0, 4), 0);
        due("5 1 5 2", g.script(1), 2);
        due("5 1 5 2", g.count(0), 3);
        due("none, from the end to the end", g.paste(0, 4, 1, 4, 0), 0);
        due("none, of an empty row", g.row(2, 1, 0) + g.paste(2, 0, 2, 0, 0), 0);
        fill(g, 0, 1, 5, 1, 5, 2, 5, 4);
        due("forward over itself", g.paste(0, 0, 0, 2, 4), 0);
        due("5 1 5 1 5 2", g.script(0), 3);
        due("5 1 5 1 5 2", g.count(0), 7);
        fill(g, 0, 1, 5, 1, 5, 2, 5, 4);
        due("back over itself", g.paste(0, 2, 0, 0, 4), 0);
        due("5 2 5 4 5 4", g.script(0), 3);
        due("5 2 5 4 5 4", g.count(0), 17);
        for (int width = 0; width <= 3; width++) {
            fill(g, 0, width, 5, 1);
            g.row(1, width, 2);
            due("width " + width, g.paste(0, 0, 1, 0, 2), 0);
            due("width " + width, g.script(1), 1);
        }
    }

    private static void pasteOrder() {
        promise = 35;
        NoteGate g = new NoteGate();
        g.row(0, 1, 4);
        g.row(1, 1, 6);
        g.row(2, 2, 6);
        sentence("-2: there is no such SLOT");
        for (int slot : new int[] {-1, 4, MIN, MAX}) {
            due("from " + slot, g.paste(slot, 0, 0, 0, 1), -2);
            due("to " + slot, g.paste(0, 0, slot, 0, 1), -2);
            due("and one has nothing", g.paste(3, 0, slot, 0, 1), -2);
        }
        sentence("-5: one has nothing");
        due("from", g.paste(3, 0, 0, 0, 1), -5);
        due("to", g.paste(0, 0, 3, 0, 1), -5);
        due("both", g.paste(3, 0, 3, 0, 1), -5);
        due("and some are beyond", g.paste(0, -1, 3, -1, -1), -5);
        sentence("-7: they are not of one WIDTH");
        due("width", g.paste(0, 0, 2, 0, 1), -7);
        due("none at all", g.paste(0, 0, 2, 0, 0), -7);
        due("and some are beyond", g.paste(0, -1, 2, 99, -1), -7);
        sentence("-6, and nothing happens: some are beyond their rows, or a place or n is below 0");
        int[][] beyond = {{0, 0, 5}, {1, 0, 4}, {4, 0, 1}, {0, 3, 4}, {0, 6, 1}, {-1, 0, 1}, {0, -1, 1}, {0, 0, -1}, {-1, 0, 0},
            {0, -1, 0}, {MIN, 0, 1}, {0, MIN, 1}, {0, 0, MIN}, {MAX, 0, 1}, {0, MAX, 1}, {0, 0, MAX}, {1, 1, MAX}, {MAX, MAX, MAX},
            {MIN, MIN, MIN}, {2, 2, MAX - 1}, {5, 0, 0}, {0, 7, 0}};
        for (int[] b : beyond) {
            due("paste(0, " + b[0] + ", 1, " + b[1] + ", " + b[2] + ")", g.paste(0, b[0], 1, b[1], b[2]), -6);
        }
        fill(g, 1, 1, 5, 1, 5, 2, 5, 4);
        due("five of four", g.paste(0, 0, 1, 0, 5), -6);
        due("nothing happened", g.script(1), 3);
        due("nothing happened", g.count(0), 7);
    }

    private static void script() {
        promise = 36;
        sentence("0 ask (3 numbers), 1 turn (2), 2 show (4), 3 hand (4), 4 deliver (1), 5 tick (1), 6 prove (1), 7 fake (2): how "
            + "many were done, up to its end");
        int[] need = {3, 2, 4, 4, 1, 1, 1, 2};
        for (int act = 0; act <= 7; act++) {
            NoteGate g = ready();
            long[] numbers = ready(act);
            due("needs", numbers.length - 1, need[act]);
            fill(g, 0, 3, numbers);
            due("act " + act, g.script(0), 1);
            due("act " + act, g.why(), 0);
            g = ready();
            long[] two = Arrays.copyOf(numbers, numbers.length + 2);
            two[numbers.length] = 6;
            fill(g, 0, 3, two);
            due("act " + act + " and one behind it", g.script(0), 2);
            g = ready();
            fill(g, 0, 3, Arrays.copyOf(numbers, numbers.length - 1));
            String before = Whole.read(g).replaceAll("why.*", "");
            due("act " + act + " not whole", g.script(0), 0);
            due("act " + act + " not whole", g.why(), 6);
            alike("nothing of it was done", Whole.read(g).replaceAll("why.*", ""), before);
        }
        NoteGate g = new NoteGate();
        due("empty", g.row(0, 0, 0) + g.script(0), 0);
        fill(g, 0, 0, new long[60]);
        for (int i = 0; i < 60; i += 2) {
            g.write(0, i, 6);
        }
        due("the most acts", g.script(0), 30);
        due("at its end", g.why(), 0);
    }

    /** Something is there for every act. */
    private static NoteGate ready() {
        NoteGate g = gate(3);
        get(g, 0, 2, 1);
        get(g, 4, 0, 1);
        shown(g, 0, 2, 0, 0);
        g.ask(1, 1, 1);
        return g;
    }

    /** An act that is done there, with numbers that are no good in another order. */
    private static long[] ready(int act) {
        long[][] acts = {{0, 4, 2, 255}, {1, 0, 1}, {2, 7, 1, 0, 6}, {3, 2, 0, 1, 254}, {4, 0}, {5, 500}, {6, 4}, {7, 3, 2}};
        return acts[act];
    }

    private static void scriptNumbers() {
        promise = 36;
        sentence("acts one behind the other, each a number and what it needs");
        int[][] letters = {{4, 9, 0, 2, 255, 4, 0}, {0, 9, 3, 1, NONE, 4, 0}, {7, 6, 2, 0, 6, 0, 0}, {7, 9, 4, 0, 1, 254, 0},
            {9, 1, 1, 4, 5, 3, 0}, {}, {}, {4, 3, 1, 2, NONE, 0, 0}};
        for (int act = 0; act <= 7; act++) {
            NoteGate g = ready();
            fill(g, 0, 3, ready(act));
            g.script(0);
            told(g, act == 4 ? 0 : 1, letters[act]);
            due("time", g.count(0), act == 5 ? 500 : 0);
        }
        NoteGate g = ready();
        g.tick(1);
        fill(g, 0, 0, 6, 2);
        g.script(0);
        due("proved", g.browser(2, 0), 1);
        fill(g, 0, 0, 2, 0, 2, 0, 0, 4, 1);
        due("a verdict of 0 is no refusal", g.script(0), 2);
        g.leave(1);
        fill(g, 0, 0, 4, 0);
        due("an ask of which nothing came is none either", g.script(0), 1);
    }

    private static void scriptStops() {
        promise = 36;
        sentence("or the first that is refused (tells a number below 0, or false), can't be one, or is not whole there");
        long[][] refused = {{0, 5, 0, 1}, {1, 0, 0}, {2, 0, 0, 0, 8}, {3, 2, 0, 2, 1}, {4, 1}, {5, 501}, {6, 5}, {7, 4, 2}};
        for (long[] act : refused) {
            NoteGate g = ready();
            long[] numbers = new long[act.length + 4];
            numbers[0] = 6;
            System.arraycopy(act, 0, numbers, 2, act.length);
            numbers[act.length + 2] = 5;
            numbers[act.length + 3] = 1;
            fill(g, 0, 2, numbers);
            due("refused", g.script(0), 1);
            due("refused", g.why(), 3);
            due("the one behind it is not done", g.count(0), 0);
        }
        NoteGate g = ready();
        fill(g, 0, 0, 5, 1, 8, 5, 1);
        due("none", g.script(0), 1);
        due("the one behind it is not done", g.count(0), 1);
        fill(g, 0, 0, 5, 1, 5);
        due("not whole", g.script(0), 1);
        due("the first is done", g.count(0), 2);
        sentence("-2: there is no such SLOT");
        for (int slot : new int[] {-1, 4, MIN, MAX}) {
            due("slot " + slot, g.script(slot), -2);
        }
        sentence("-5: it has nothing");
        due("slot 3", g.script(3), -5);
        g.tear(0);
        due("torn", g.script(0), -5);
    }

    private static void why() {
        promise = 37;
        NoteGate g = new NoteGate();
        sentence("NONE ahead of any");
        due("new", g.why(), NONE);
        g.script(0);
        g.script(4);
        due("those were none", g.why(), NONE);
        sentence("How the latest SCRIPT ended: 0 at its end, 3 by one that was refused, 4 by one that is none (or a number of it "
            + "is no int), 6 within one (its numbers are read one by one, the first that is wrong counts)");
        long big = 1L << 31;
        long[][] rows = {{}, {5, 1}, {5, 0}, {8}, {-1}, {7}, {0, 0, 0}, {5, big}, {5, -big - 1}, {5, -big}, {5, big - 1},
            {big * 2 + 5, 1}, {0, 0, big}, {0, big, 0}, {2, 0, 0, 0, big}, {2, 0, 0, 0}, {5, 1, 5}, {5, 1, 9}, {5, 1, 5, big}, {5, 0, 9}};
        int[] ends = {0, 0, 3, 4, 4, 6, 6, 4, 4, 3, 3, 4, 4, 4, 4, 6, 6, 4, 4, 3};
        for (int i = 0; i < rows.length; i++) {
            fill(g, 0, 3, rows[i]);
            g.script(0);
            due("row " + i, g.why(), ends[i]);
        }
        fill(g, 0, 3, 5, 0);
        g.script(0);
        due("refused", g.why(), 3);
        g.script(3);
        g.script(-1);
        due("those were none", g.why(), 3);
    }
}
