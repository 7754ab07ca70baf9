/** For each promise of the document: ordinary inputs, the edges that it names, wrong inputs. */
public final class PromisesTest extends Answers {
    public static void main(String[] args) {
        promise1NewObject();
        promise2Terms();
        promise2TermsCount();
        promise3Checks();
        promise4House();
        promise5ThrowOut();
        promise6Keeper();
        promise7Tap();
        promise7WhatTheThiefReads();
        promise8Prove();
        promise9Leave();
        promise10End();
        promise11Ask();
        promise12Turn();
        promise13Show();
        promise14Hand();
        promise15Fake();
        promise16DeliverAsk();
        promise16DeliverTurn();
        promise16DeliverHand();
        promise16DeliverGive();
        promise16DeliverOver();
        promise16Verdicts();
        promise16FirstVerdictCounts();
        promise16NumbersRunOut();
        promise16FamiliesRunOut();
        promise17Copy();
        promise18Lose();
        promise19Tick();
        promise19LateLetters();
        promise20JudgeLetIn();
        promise20JudgeStrangeNote();
        promise20JudgeWrong();
        promise20JudgeOrder();
        promise20JudgeFull();
        promise20JudgeLeavesAllAsItIs();
        promise21Found();
        promise22Stops();
        promise23Longest();
        promise24Note();
        promise25Letter();
        promise26Family();
        promise27HouseOf();
        promise28Browser();
        promise29Log();
        promise30Where();
        promise31Count();
        promise32Row();
        promise33Tear();
        promise34Write();
        promise35Paste();
        promise36Script();
        promise36NumbersInTheirPlaces();
        promise37Why();
        end();
    }

    private static void promise1NewObject() {
        about("promise 1");
        NoteGate g = new NoteGate();
        int[] counts = {0, 0, 0, 0, 0, 0, 0, 255, 1, 0, 0, 0, 0};
        for (int what = 0; what < counts.length; what++) {
            due("count(" + what + ")", g.count(what), counts[what]);
        }
        for (int b = 0; b < 5; b++) {
            due("browser, 0", g.browser(b, 0), NONE);
            due("browser, 1", g.browser(b, 1), 0);
            due("browser, 2", g.browser(b, 2), 0);
        }
        due("houseOf", g.houseOf(0, 0), -100);
        due("note", g.note(0, 0), -2);
        due("letter", g.letter(0, 0), -2);
        due("family", g.family(0, 0), -2);
        due("log", g.log(0, 0), -2);
        due("found", g.found(0), NONE);
        due("why", g.why(), NONE);
        due("deliver", g.deliver(0), NONE);
        for (int slot = 0; slot < 4; slot++) {
            due("write", g.write(slot, 0, 1L), -5);
        }
        due("NONE", NoteGate.NONE, -1);
    }

    private static void promise2Terms() {
        about("promise 2");
        int[] least = {1, 1, 0, 1, 0, 1, 0};
        int[] most = {1000, 10000, 20, 100, 1000, 100, 1000};
        NoteGate g = new NoteGate();
        yes("the least", terms(g, least));
        yes("the most", terms(g, most));
        for (int i = 0; i < 7; i++) {
            int[] far = {least[i] - 1, most[i] + 1, MIN, MAX};
            for (int v : far) {
                int[] t = most.clone();
                t[i] = v;
                no("term " + i + " is " + v, terms(g, t));
            }
        }
    }

    private static boolean terms(NoteGate g, int[] t) {
        return g.terms(t[0], t[1], t[2], t[3], t[4], t[5], t[6]);
    }

    private static void promise2TermsCount() {
        about("promise 2");
        NoteGate g = gate(1);
        yes("terms", g.terms(7, 30, 1, 4, 0, 3, 2));
        no("wrong terms", g.terms(8, 31, 2, 5, 1, 4, 1001));
        int x = get(g, 0, 0, 255);
        due("life", g.note(x, 5), 7);
        due("long", g.note(x + 1, 5), 30);
        due("skew and life", g.longest(x, 0, 0), 7);
        g.ask(0, 0, 1);
        g.tick(2);
        due("not late yet", g.count(4), 1);
        g.tick(1);
        due("late: the ask came", g.count(2), 4);
        due("not heard yet", g.houseOf(0, 4), 0);
        g.tick(1);
        due("each", g.houseOf(0, 4), 4);
    }

    private static void promise3Checks() {
        about("promise 3");
        NoteGate g = gate(2);
        due("wrong", g.checks(-1), -2);
        due("wrong", g.checks(256), -2);
        due("wrong", g.checks(MIN), -2);
        due("wrong", g.checks(MAX), -2);
        due("still all", g.count(7), 255);
        due("before", g.checks(0), 255);
        due("before", g.checks(254), 0);
        due("before", g.checks(255), 254);
        int x = get(g, 0, 0, 1);
        due("on", shown(g, 0, 1, x, 0), 3);
        g.checks(254);
        due("off", shown(g, 0, 1, x, 0), 0);
    }

    private static void promise4House() {
        about("promise 4");
        NoteGate g = new NoteGate();
        due("off", g.house(-21, false, 0), -2);
        due("off", g.house(21, false, 0), -2);
        due("off", g.house(MAX, false, 0), -2);
        due("dear", g.house(0, false, -1), -2);
        due("dear", g.house(0, false, 256), -2);
        due("none came", g.count(1), 0);
        due("first", g.house(-20, true, 255), 0);
        g.tick(7);
        due("second", g.house(20, false, 0), 1);
        due("in", g.houseOf(1, 0), 1);
        due("heard", g.houseOf(1, 4), 7);
        due("heard", g.houseOf(0, 4), 0);
        due("third", g.house(0, false, 0), 2);
        due("fourth", g.house(0, false, 0), 3);
        due("a fifth", g.house(0, false, 0), -3);
        due("a wrong fifth", g.house(21, false, 0), -2);
        due("houses", g.count(1), 4);
        due("first is as it was", g.houseOf(0, 1), -20);
        due("first is once", g.houseOf(0, 2), 1);
        due("first's dear", g.houseOf(0, 3), 255);
    }

    private static void promise5ThrowOut() {
        about("promise 5");
        NoteGate g = gate(2);
        no("none such", g.throwOut(-1));
        no("none such", g.throwOut(2));
        no("none such", g.throwOut(MIN));
        no("none such", g.throwOut(33));
        int x = get(g, 0, 1, 1);
        yes("out", g.throwOut(1));
        no("it is", g.throwOut(1));
        due("out", g.houseOf(1, 0), 0);
        due("in", g.houseOf(0, 0), 1);
        due("verdict", shown(g, 0, 1, x, 0), 1);
        due("number is kept", g.house(0, false, 0), 2);
        g.ask(0, 1, 1);
        due("ask for one that is out", g.deliver(0), 0);
        g.turn(0, x + 1);
        due("turn for one that is out", g.deliver(0), 0);
        g.end(0);
        due("over is not posted to it", g.count(4), 0);
        g.tick(10);
        due("it hears nothing", g.houseOf(1, 4), 0);
        due("it knows nothing", g.houseOf(1, 5), 0);
        due("the other knows", g.houseOf(0, 5), 1);
    }

    private static void promise6Keeper() {
        about("promise 6");
        NoteGate g = gate(2);
        int x = get(g, 0, 0, 1);
        shown(g, 0, 0, x, 0);
        yes("was up", g.keeper(true));
        yes("was up", g.keeper(false));
        no("was down", g.keeper(false));
        due("down", g.count(8), 0);
        g.ask(0, 0, 1);
        due("ask", g.deliver(0), 0);
        g.turn(0, x + 1);
        due("turn", g.deliver(0), 0);
        due("not turned", g.note(x + 1, 9), 0);
        g.hand(0, x, 1, 1);
        due("hand", g.deliver(0), 0);
        due("no notes came", g.count(2), 2);
        g.tick(10);
        due("nothing is heard", g.houseOf(0, 4), 0);
        no("was down", g.keeper(true));
        g.tick(10);
        due("heard", g.houseOf(0, 4), 20);
    }

    private static void promise7Tap() {
        about("promise 7");
        NoteGate g = new NoteGate();
        due("wrong", g.tap(-1), -2);
        due("wrong", g.tap(512), -2);
        due("wrong", g.tap(MIN), -2);
        due("nobody", g.count(9), 0);
        due("before", g.tap(511), 0);
        due("before", g.tap(3), 511);
        due("now", g.count(9), 3);
    }

    private static void promise7WhatTheThiefReads() {
        about("promise 7");
        NoteGate g = gate(2);
        g.ask(1, 0, 1);
        g.tap(2);
        due("posted ahead of it", g.browser(1, 2), 0);
        g.deliver(0);
        due("give to 1: note", g.note(0, 10), 16);
        due("give to 1: refresh", g.note(1, 10), 16);
        due("give to 1: pair", g.browser(1, 2), 1);
        g.deliver(0);
        due("what he knows stays", g.browser(1, 2), 1);
        due("both have it", g.note(0, 10), 18);
        g.tap(0);
        int x = get(g, 2, 0, 1);
        g.tap(32);
        g.show(2, 1, x, 0);
        due("a show to another", g.note(x, 10), 4);
        g.show(2, 0, x, 0);
        due("a show to a tapped one", g.note(x, 10), 4 + 16);
        g.tap(4);
        due("turn", g.turn(2, x + 1), 3);
        due("a turn from a tapped one", g.note(x + 1, 10), 4 + 16);
        due("a turn's pair", g.browser(2, 2), 3);
        g = gate(2);
        x = get(g, 0, 0, 1);
        shown(g, 0, 0, x, 0);
        g.tap(32);
        g.hand(0, x, 1, 1);
        due("hand from a tapped house", g.note(x, 10), 1 + 16 + 32);
        g.deliver(0);
        due("give to a tapped house", g.note(2, 10), 16);
        due("a house's pair is nobody's", g.browser(0, 2), 0);
        g.tap(16);
        g.ask(4, 0, 1);
        due("his own pair is not told", g.browser(4, 2), 0);
        g.deliver(1);
        due("his own notes he reads", g.note(3, 10), 16);
        due("his own pair is not told", g.browser(4, 2), 0);
    }

    private static void promise8Prove() {
        about("promise 8");
        NoteGate g = new NoteGate();
        no("none such", g.prove(-1));
        no("none such", g.prove(5));
        no("none such", g.prove(MAX));
        yes("the thief", g.prove(4));
        due("now", g.browser(4, 0), 0);
        g.tick(3);
        yes("again", g.prove(4));
        due("now", g.browser(4, 0), 3);
        g.keeper(false);
        g.tick(1);
        no("down", g.prove(4));
        no("down", g.prove(0));
        due("as it was", g.browser(4, 0), 3);
        due("as it was", g.browser(0, 0), NONE);
    }

    private static void promise9Leave() {
        about("promise 9");
        NoteGate g = gate(2);
        get(g, 0, 0, 1);
        get(g, 1, 0, 1);
        get(g, 0, 1, 1);
        get(g, 0, 0, 1);
        g.tick(2);
        g.end(2);
        g.lose(0);
        due("none such", g.leave(-1), -2);
        due("none such", g.leave(5), -2);
        g.keeper(false);
        due("down", g.leave(0), -3);
        due("none such, and down", g.leave(5), -2);
        due("still proved", g.browser(0, 0), 0);
        g.keeper(true);
        g.tick(1);
        due("two more", g.leave(0), 2);
        due("proved no more", g.browser(0, 0), NONE);
        due("ended now", g.family(0, 1), 3);
        due("another's", g.family(1, 1), NONE);
        due("ended before", g.family(2, 1), 2);
        due("ended now", g.family(3, 1), 3);
        due("two letters", g.count(4), 2);
        due("by numbers", g.letter(0, 3), 0);
        due("by numbers", g.letter(1, 3), 3);
        due("again", g.leave(0), 0);
        g.ask(0, 0, 1);
        due("asks in vain", g.deliver(2), 0);
    }

    private static void promise10End() {
        about("promise 10");
        NoteGate g = gate(3);
        int x = get(g, 0, 2, 1);
        shown(g, 0, 2, x, 0);
        g.hand(2, x, 0, 1);
        g.deliver(0);
        g.deliver(0);
        no("none such", g.end(-1));
        no("none such", g.end(1));
        no("none such", g.end(MAX));
        g.keeper(false);
        no("down", g.end(0));
        g.keeper(true);
        g.tick(4);
        yes("end", g.end(0));
        due("now", g.family(0, 1), 4);
        due("to the houses of its notes", g.count(4), 2);
        int[] first = {9, 5, 5, 0, NONE, 0, 4};
        told(g, 0, first);
        due("the second, by numbers", g.letter(1, 1), 7);
        no("it is", g.end(0));
        due("nothing more", g.count(4), 2);
        due("still let in", shown(g, 0, 2, x, 0), 0);
        g.deliver(1);
        due("known", shown(g, 0, 2, x, 0), 6);
    }

    private static void promise11Ask() {
        about("promise 11");
        NoteGate g = gate(2);
        int[][] bad = {{-1, 0, 1}, {5, 0, 1}, {0, -1, 1}, {0, 2, 1}, {0, 0, 0}, {0, 0, 256}, {0, 0, -1}, {MIN, 0, 1}, {0, MAX, 1}};
        for (int[] b : bad) {
            due("wrong", g.ask(b[0], b[1], b[2]), -2);
        }
        due("nothing posted", g.count(4), 0);
        due("first pair", g.ask(4, 1, 255), 1);
        due("second pair", g.ask(3, 0, 1), 2);
        due("third pair", g.ask(4, 1, 1), 3);
        due("the latest", g.browser(4, 1), 3);
        due("its own", g.browser(3, 1), 2);
        int[] letter = {4, 9, 0, 1, 255, 1, 0};
        told(g, 0, letter);
        g.throwOut(1);
        g.keeper(false);
        due("out and down", g.ask(0, 1, 1), 4);
        for (int i = 0; i < 8; i++) {
            g.ask(0, 0, 1);
        }
        due("post is full", g.count(4), 12);
        due("a pair all the same", g.ask(1, 0, 1), 13);
        due("has it", g.browser(1, 1), 13);
        due("lost", g.count(10), 1);
    }

    private static void promise12Turn() {
        about("promise 12");
        NoteGate g = gate(1);
        int x = get(g, 0, 0, 1);
        due("none such", g.turn(-1, x + 1), -2);
        due("none such", g.turn(5, x + 1), -2);
        due("no note", g.turn(0, -1), -2);
        due("no note", g.turn(0, 2), -2);
        due("has it not", g.turn(1, x + 1), -3);
        due("no refresh", g.turn(0, x), -3);
        due("nothing posted", g.count(4), 0);
        g.tick(1);
        due("pair", g.turn(0, x + 1), 2);
        due("the browser's", g.browser(0, 1), 2);
        int[] letter = {0, 9, 3, 1, NONE, 2, 1};
        told(g, 0, letter);
        due("turned only as it comes", g.note(1, 9), 0);
    }

    private static void promise13Show() {
        about("promise 13");
        NoteGate g = gate(2);
        int x = get(g, 0, 0, 3);
        int[][] bad = {{-1, 0, x, 0}, {9, 0, x, 0}, {1, 0, x, 0}, {5, 0, x, 0}, {8, 0, x, 0}, {32, 0, x, 0}, {0, -1, x, 0},
            {0, 2, x, 0}, {0, 0, -1, 0}, {0, 0, 2, 0}, {0, 0, x, -1}, {0, 0, x, 8}, {MAX, MAX, MAX, MAX}, {MIN, 0, x, 0}};
        for (int[] b : bad) {
            no("wrong", g.show(b[0], b[1], b[2], b[3]));
        }
        due("nothing posted", g.count(4), 0);
        yes("show", g.show(0, 1, x, 7));
        int[] letter = {0, 6, 2, x, 7, 0, 0};
        told(g, 0, letter);
        yes("a refresh too", g.show(0, 0, x + 1, 0));
        due("let in", shown(g, 0, 0, x, 1), 0);
        yes("a house that has it", g.show(5, 1, x, 0));
        yes("at its own door", g.show(5, 0, x, 0));
        g.throwOut(1);
        yes("at one that is out", g.show(0, 1, x, 0));
    }

    private static void promise14Hand() {
        about("promise 14");
        NoteGate g = gate(2);
        int x = get(g, 0, 0, 3);
        no("has it not", g.hand(0, x, 1, 1));
        due("let in", shown(g, 0, 0, x, 0), 0);
        int[][] bad = {{-1, x, 1, 1}, {2, x, 1, 1}, {0, x, -1, 1}, {0, x, 2, 1}, {0, x, 0, 1}, {0, -1, 1, 1}, {0, 2, 1, 1},
            {0, x + 1, 1, 1}, {1, x, 0, 1}, {0, x, 1, 0}, {0, x, 1, 256}, {MIN, MIN, MIN, MIN}, {MAX, x, 1, 1}};
        for (int[] b : bad) {
            no("wrong", g.hand(b[0], b[1], b[2], b[3]));
        }
        due("nothing posted", g.count(4), 0);
        g.throwOut(1);
        yes("hand", g.hand(0, x, 1, 255));
        int[] letter = {5, 9, 4, x, 1, 255, 0};
        told(g, 0, letter);
    }

    private static void promise15Fake() {
        about("promise 15");
        NoteGate g = gate(1);
        int x = get(g, 4, 0, 1);
        int y = get(g, 0, 0, 1);
        no("none such", g.fake(-1, x));
        no("his own", g.fake(4, x));
        no("none such", g.fake(5, x));
        no("no note", g.fake(0, -1));
        no("no note", g.fake(0, 4));
        no("has it not", g.fake(1, y));
        due("nothing posted", g.count(4), 0);
        yes("fake", g.fake(3, x + 1));
        int[] letter = {4, 3, 1, x + 1, NONE, 0, 0};
        told(g, 0, letter);
        g.tap(4);
        due("pair", g.ask(2, 0, 1), 3);
        yes("with the pair that he knows", g.fake(2, x));
        due("z", g.letter(2, 5), 3);
        due("taken", g.deliver(2), 1);
    }

    private static void promise16DeliverAsk() {
        about("promise 16");
        NoteGate g = new NoteGate();
        g.house(0, false, 0);
        g.terms(11, 77, 2, 10, 0, 50, 10);
        due("none such", g.deliver(-1), NONE);
        due("none such", g.deliver(0), NONE);
        due("none such", g.deliver(MAX), NONE);
        g.ask(3, 0, 6);
        due("not proved", g.deliver(0), 0);
        due("gone all the same", g.count(4), 0);
        g.prove(3);
        g.tick(4);
        g.ask(3, 0, 6);
        due("given", g.deliver(0), 1);
        int[] note = {0, 3, 0, 6, 4, 15, 0, 0, NONE, 0, 0};
        int[] refresh = {1, 3, 0, 6, 4, 81, 0, 0, NONE, 0, 0};
        for (int what = 0; what < note.length; what++) {
            due("note(0, " + what + ")", g.note(0, what), note[what]);
            due("note(1, " + what + ")", g.note(1, what), refresh[what]);
        }
        due("family", g.family(0, 0), 3);
        due("family", g.family(0, 1), NONE);
        int[] letter = {9, 3, 1, 0, 1, 2, 4};
        told(g, 0, letter);
        g.leave(3);
        g.ask(3, 0, 6);
        due("proved no more", g.deliver(2), 0);
        due("as it was", g.count(2), 2);
    }

    private static void promise16DeliverTurn() {
        about("promise 16");
        NoteGate g = gate(1);
        g.terms(5, 12, 2, 10, 0, 50, 10);
        int x = get(g, 0, 0, 9);
        g.tick(3);
        g.turn(0, x + 1);
        g.copy(0);
        due("given", g.deliver(0), 1);
        due("turned", g.note(1, 9), 1);
        int[] note = {0, 0, 0, 9, 3, 8, 0, 0, NONE, 0, 0};
        int[] refresh = {1, 0, 0, 9, 3, 12, 0, 0, NONE, 0, 0};
        for (int what = 0; what < note.length; what++) {
            due("note(2, " + what + ")", g.note(2, what), note[what]);
            due("note(3, " + what + ")", g.note(3, what), refresh[what]);
        }
        due("give", g.letter(1, 3), 2);
        due("give", g.letter(1, 4), 3);
        due("give", g.letter(1, 5), 2);
        g.checks(255 - 32);
        g.copy(0);
        due("twice, check 5 off", g.deliver(0), 1);
        due("given again", g.count(2), 6);
        g.checks(255);
        due("twice, check 5 on", g.deliver(1), 1);
        due("the family is ended", g.family(0, 1), 3);
        due("no notes", g.count(2), 6);
        g = gate(1);
        g.terms(5, 12, 2, 10, 0, 50, 10);
        x = get(g, 0, 0, 9);
        g.tick(11);
        g.turn(0, x + 1);
        g.copy(0);
        g.tick(1);
        due("not below till", g.deliver(0), 0);
        g = gate(1);
        g.terms(5, 12, 2, 10, 0, 50, 10);
        x = get(g, 0, 0, 9);
        g.tick(11);
        g.turn(0, x + 1);
        due("just below till", g.deliver(0), 1);
        g.end(0);
        g.turn(0, x + 1);
        due("ended: nothing", g.deliver(g.count(4) - 1), 0);
    }

    private static void promise16DeliverHand() {
        about("promise 16");
        NoteGate g = gate(3);
        g.terms(20, 200, 2, 10, 0, 50, 10);
        int x = get(g, 2, 0, 6);
        due("let in", shown(g, 2, 0, x, 1), 0);
        g.tick(5);
        g.hand(0, x, 2, 12);
        due("given", g.deliver(0), 1);
        int[] handed = {2, 2, 2, 4, 5, 20, 0, 0, x, 0, 0};
        for (int what = 0; what < handed.length; what++) {
            due("note(2, " + what + ")", g.note(2, what), handed[what]);
        }
        int[] letter = {9, 5, 1, 2, NONE, 0, 5};
        told(g, 0, letter);
        due("to a house: taken", g.deliver(0), 1);
        due("the house has it", g.note(2, 10), 32);
        g.hand(0, x, 2, 8);
        due("no rights are left", g.deliver(0), 0);
        g.checks(255 - 64);
        g.hand(0, x, 2, 8);
        due("check 6 off", g.deliver(0), 1);
        due("wider", g.note(3, 3), 8);
        due("longer", g.note(3, 5), 25);
        g.deliver(0);
        g.checks(255);
        g.hand(0, 2, 1, 4);
        due("one that was handed", g.deliver(0), 1);
        due("its parent", g.note(4, 8), 2);
        g.deliver(0);
        g.terms(3, 200, 2, 10, 0, 50, 10);
        g.hand(0, x, 2, 2);
        due("life is less", g.deliver(0), 1);
        due("life is less", g.note(5, 5), 8);
        g.deliver(0);
        g.hand(0, x, 2, 2);
        g.copy(0);
        g.copy(0);
        g.tick(14);
        due("just below till", g.deliver(0), 1);
        g.tick(1);
        due("not below till", g.deliver(0), 0);
        g = gate(2);
        x = get(g, 2, 0, 6);
        shown(g, 2, 0, x, 1);
        g.hand(0, x, 1, 2);
        g.copy(0);
        g.throwOut(1);
        due("helper is out", g.deliver(0), 0);
        g.end(0);
        due("ended", g.deliver(0), 0);
    }

    private static void promise16DeliverGive() {
        about("promise 16");
        NoteGate g = gate(1);
        g.ask(0, 0, 1);
        g.deliver(0);
        g.copy(0);
        g.copy(0);
        g.ask(0, 0, 1);
        due("another pair", g.deliver(0), 0);
        due("not taken", g.note(0, 10), 0);
        g.checks(255 - 16);
        due("check 4 off", g.deliver(0), 1);
        due("taken", g.note(0, 10), 1);
        due("taken", g.note(1, 10), 1);
        due("no pair any more", g.browser(0, 1), 0);
        g.checks(255);
        due("no pair", g.deliver(0), 0);
        due("the ask", g.deliver(0), 1);
        due("no pair: not taken", g.deliver(0), 0);
        int x = get(g, 4, 0, 1);
        g.fake(1, x);
        due("no pair is not the pair 0", g.deliver(0), 0);
        due("not taken", g.note(x, 10), 16);
    }

    private static void promise16DeliverOver() {
        about("promise 16");
        NoteGate g = gate(2);
        get(g, 0, 0, 1);
        get(g, 0, 1, 1);
        g.end(0);
        g.end(1);
        g.copy(0);
        due("over", g.deliver(0), 1);
        due("knows", g.houseOf(0, 5), 1);
        due("over", g.deliver(0), 1);
        due("knows", g.houseOf(1, 5), 2);
        g.throwOut(0);
        due("always", g.deliver(0), 1);
    }

    private static void promise16Verdicts() {
        about("promise 16");
        NoteGate g = gate(0);
        g.house(-4, false, 0);
        g.house(4, true, 2);
        int x = get(g, 0, 0, 3);
        due("4: below from less skew", shown(g, 0, 0, x, 0), 4);
        g.checks(255 - 2);
        due("check 1 off", shown(g, 0, 0, x, 0), 0);
        g.checks(255);
        g.tick(1);
        due("4 still", shown(g, 0, 0, x, 0), 4);
        g.tick(1);
        due("0: clock is from less skew", shown(g, 0, 0, x, 0), 0);
        due("2", shown(g, 0, 0, x + 1, 0), 2);
        due("3", shown(g, 0, 1, x, 0), 3);
        due("9", shown(g, 0, 0, x, 2), 9);
        int y = get(g, 1, 1, 7);
        due("0", shown(g, 1, 1, y, 0), 0);
        due("8: once", shown(g, 1, 1, y, 0), 8);
        g.checks(255 - 4);
        due("check 2 off", shown(g, 1, 1, y, 0), 0);
        due("0: dear, clock 6, proof 0", shown(g, 1, 1, y, 1), 0);
        g.tick(6);
        due("0: dear, clock 12", shown(g, 1, 1, y, 1), 0);
        g.tick(1);
        due("10: dear, clock 13", shown(g, 1, 1, y, 1), 10);
        due("0: not dear", shown(g, 1, 1, y, 0), 0);
        g.checks(255 - 4 - 128);
        due("check 7 off", shown(g, 1, 1, y, 1), 0);
        g.tick(10);
        due("clock 23 of till 22 and skew 2", shown(g, 1, 1, y, 0), 0);
        g.tick(1);
        due("5: clock 24", shown(g, 1, 1, y, 0), 5);
        g.checks(255 - 2 - 4);
        due("check 1 off", shown(g, 1, 1, y, 0), 0);
        g.end(1);
        g.deliver(0);
        due("6", shown(g, 1, 1, y, 0), 6);
        g.checks(255 - 2 - 4 - 8);
        due("check 3 off", shown(g, 1, 1, y, 0), 0);
        g.throwOut(1);
        due("1", shown(g, 1, 1, y, 0), 1);
    }

    private static void promise16FirstVerdictCounts() {
        about("promise 16");
        NoteGate g = gate(0);
        g.house(0, true, 255);
        g.house(0, false, 0);
        g.terms(20, 200, 0, 100, 5, 50, 3);
        int x = get(g, 0, 0, 1);
        g.tick(5);
        due("patience is not above", shown(g, 0, 0, x, 7), 9);
        g.checks(255 - 128);
        due("let in", shown(g, 0, 0, x, 0), 0);
        g.checks(255);
        due("8 ahead of 9", shown(g, 0, 0, x, 7), 8);
        g.tick(1);
        due("7 ahead of 8", shown(g, 0, 0, x, 7), 7);
        g.checks(255 - 8);
        due("check 3 off", shown(g, 0, 0, x, 7), 8);
        g.checks(255 - 8 - 4);
        due("9 ahead of 10", shown(g, 0, 0, x, 7), 9);
        due("10", shown(g, 0, 0, x, 0), 10);
        g.checks(255);
        g.end(0);
        g.deliver(0);
        due("6 ahead of 7", shown(g, 0, 0, x, 7), 6);
        g.tick(14);
        due("5 ahead of 6", shown(g, 0, 0, x, 7), 5);
        due("3 ahead of 5", shown(g, 0, 1, x, 7), 3);
        due("2 ahead of 3", shown(g, 0, 1, x + 1, 7), 2);
        g.throwOut(1);
        due("1 ahead of 2", shown(g, 0, 1, x + 1, 7), 1);
        due("a show that is refused leaves nothing", g.houseOf(1, 6), 0);
        due("nor with the house", g.note(x, 10), 1 + 32);
    }

    private static void promise16NumbersRunOut() {
        about("promise 16");
        NoteGate g = gate(2);
        g.terms(1000, 10000, 2, 10, 0, 100, 10);
        int x = get(g, 0, 0, 1);
        shown(g, 0, 0, x, 0);
        int refresh = x + 1;
        for (int i = 0; i < 14; i++) {
            g.turn(0, refresh);
            due("turn", g.deliver(0), 1);
            g.deliver(0);
            refresh += 2;
        }
        due("notes", g.count(2), 30);
        g.hand(0, x, 1, 1);
        due("hand", g.deliver(0), 1);
        g.deliver(0);
        due("notes", g.count(2), 31);
        g.turn(0, refresh);
        due("no numbers for both", g.deliver(0), 0);
        due("not turned", g.note(refresh, 9), 0);
        g.ask(0, 0, 1);
        due("no numbers for both", g.deliver(0), 0);
        due("no family either", g.count(3), 1);
        g.hand(0, x, 1, 1);
        due("one more", g.deliver(0), 1);
        g.deliver(0);
        due("notes", g.count(2), 32);
        g.hand(0, 31, 1, 1);
        due("none more", g.deliver(0), 0);
        due("the last has its number", g.note(31, 0), 2);
        due("no more", g.note(32, 0), -2);
        due("shown", shown(g, 5, 1, 31, 0), 0);
        due("bit 31", g.houseOf(1, 6), MIN);
        g.turn(0, 1);
        due("ending needs no numbers", g.deliver(0), 1);
        due("ended", g.family(0, 1), 0);
    }

    private static void promise16FamiliesRunOut() {
        about("promise 16");
        NoteGate g = gate(1);
        for (int i = 0; i < 16; i++) {
            g.ask(i % 5, 0, 1);
            due("ask", g.deliver(0), 1);
            g.lose(0);
        }
        due("families", g.count(3), 16);
        due("the last", g.family(15, 0), 0);
        g.ask(0, 0, 1);
        due("none more", g.deliver(0), 0);
        g.end(15);
        g.deliver(0);
        due("bit 15", g.houseOf(0, 5), 32768);
    }

    private static void promise17Copy() {
        about("promise 17");
        NoteGate g = gate(2);
        no("none such", g.copy(-1));
        no("none such", g.copy(0));
        g.ask(0, 0, 1);
        g.ask(1, 1, 7);
        g.tick(2);
        g.tap(1);
        yes("copy", g.copy(0));
        int[] letter = {0, 9, 0, 0, 1, 1, 2};
        told(g, 2, letter);
        due("the first as it was", g.letter(0, 6), 0);
        due("the thief reads it", g.browser(0, 2), 1);
        no("none such", g.copy(3));
        for (int i = 3; i < 12; i++) {
            yes("copy", g.copy(1));
        }
        due("12", g.count(4), 12);
        no("the post has 12", g.copy(0));
        due("which is not lost", g.count(10), 0);
    }

    private static void promise18Lose() {
        about("promise 18");
        NoteGate g = gate(1);
        no("none such", g.lose(-1));
        no("none such", g.lose(0));
        g.ask(0, 0, 1);
        g.ask(1, 0, 2);
        g.ask(2, 0, 3);
        yes("lose", g.lose(1));
        due("two are left", g.count(4), 2);
        due("the first", g.letter(0, 0), 0);
        due("one forward", g.letter(1, 0), 2);
        due("one forward", g.letter(1, 4), 3);
        no("none such", g.lose(2));
        due("not among the lost", g.count(10), 0);
        g.tick(5);
        due("it never comes", g.count(2), 4);
    }

    private static void promise19Tick() {
        about("promise 19");
        NoteGate g = gate(2);
        due("wrong", g.tick(0), -2);
        due("wrong", g.tick(-1), -2);
        due("wrong", g.tick(501), -2);
        due("wrong", g.tick(MAX), -2);
        due("time", g.count(0), 0);
        due("one", g.tick(1), 1);
        get(g, 0, 0, 1);
        g.end(0);
        g.lose(0);
        g.throwOut(1);
        due("eight", g.tick(8), 9);
        due("not heard", g.houseOf(0, 5), 0);
        due("ten", g.tick(1), 10);
        due("heard", g.houseOf(0, 5), 1);
        due("heard", g.houseOf(0, 4), 10);
        due("out", g.houseOf(1, 4), 0);
        for (int i = 0; i < 59; i++) {
            due("500", g.tick(500), 510 + 500 * i);
        }
        due("above", g.tick(491), -3);
        due("stays", g.count(0), 29510);
        due("to the last", g.tick(490), 30000);
        due("above", g.tick(1), -3);
        due("wrong", g.tick(0), -2);
    }

    private static void promise19LateLetters() {
        about("promise 19");
        NoteGate g = gate(1);
        g.terms(20, 200, 2, 10, 0, 3, 10);
        g.ask(0, 0, 1);
        g.tick(1);
        g.ask(1, 0, 1);
        g.tick(1);
        due("none yet", g.count(4), 2);
        g.tick(1);
        due("the ask became a give", g.letter(1, 2), 1);
        due("posted now", g.letter(1, 6), 3);
        g.tick(1);
        due("the second", g.letter(1, 1), 1);
        g.tick(2);
        due("the give came", g.note(0, 10), 1);
        due("the other not yet", g.note(2, 10), 0);
        g.tick(1);
        due("the other came", g.note(2, 10), 2);
        g.terms(20, 200, 2, 10, 0, 1, 10);
        g.show(0, 0, 0, 0);
        g.end(0);
        g.tick(1);
        due("the show came first", g.log(0, 5), 0);
        due("then over", g.houseOf(0, 5), 1);
        g.ask(1, 0, 1);
        g.ask(2, 0, 1);
        g.ask(3, 0, 1);
        g.tick(1);
        due("all of them", g.count(2), 10);
        due("in order", g.note(4, 1), 1);
        due("in order", g.note(8, 1), 3);
        g = gate(1);
        get(g, 0, 0, 1);
        g.tick(9);
        g.show(0, 0, 0, 0);
        g.tick(1);
        g.lose(0);
        g.show(0, 0, 0, 0);
        g.tick(4);
        g.end(0);
        g.lose(1);
        g.tick(1);
        due("not heard yet", g.log(0, 5), 0);
        g.show(0, 0, 0, 0);
        g.tick(5);
        due("heard first, then the letter comes", g.log(1, 5), 6);
    }

    private static void promise20JudgeLetIn() {
        about("promise 20");
        NoteGate g = gate(2);
        g.tap(32);
        int x = get(g, 1, 0, 2);
        due("he has nothing", g.judge(0, 0, 1, 1, 6), NONE);
        g.show(1, 0, x, 1);
        due("he read it", g.judge(0, 0, 1, 1, 6), 1);
        due("he shows it", g.found(0), 100);
        due("another right", g.judge(0, 0, 1, 0, 2), NONE);
        due("another person", g.judge(0, 0, 0, 1, 2), NONE);
        due("another house", g.judge(0, 1, 1, 1, 2), NONE);
        due("no moves", g.judge(0, 0, 1, 1, 0), NONE);
        g.throwOut(0);
        due("out", g.judge(0, 0, 1, 1, 2), NONE);
        g = gate(0);
        g.house(-6, false, 0);
        g.tap(2);
        get(g, 1, 0, 1);
        due("its clock is behind", g.judge(0, 0, 1, 0, 4), NONE);
        due("he waits", g.judge(0, 0, 1, 0, 5), 5);
        int[] row = {600, 600, 600, 600, 100, NONE};
        for (int i = 0; i < row.length; i++) {
            due("found(" + i + ")", g.found(i), row[i]);
        }
        g = gate(1);
        g.terms(1, 200, 0, 10, 0, 5, 10);
        g.tap(1);
        int r = get(g, 0, 0, 1) + 1;
        g.tick(1);
        due("he turns the refresh", g.judge(0, 0, 0, 0, 3), 2);
        due("turn", g.found(0), 300 + r);
        due("show", g.found(1), 100 + 4 * 2);
        g.keeper(false);
        due("keeper is down", g.judge(0, 0, 0, 0, 3), NONE);
        g.keeper(true);
        g.turn(0, r);
        due("ahead of the browser", g.judge(0, 0, 0, 0, 3), 2);
        due("the browser's comes first", g.found(0), 0);
        g.deliver(0);
        g.throwOut(0);
        due("out", g.judge(0, 0, 0, 0, 3), NONE);
        g = gate(2);
        int h = get(g, 3, 0, 1);
        shown(g, 3, 0, h, 0);
        g.tap(32);
        g.hand(0, h, 1, 1);
        g.tap(0);
        due("handed, not tapped", g.judge(0, 1, 3, 0, 3), NONE);
        g.tap(32);
        due("what is handed he reads", g.judge(0, 1, 3, 0, 3), 2);
        due("hand comes", g.found(0), 0);
        due("a handed one is shown", g.found(1), 100 + 4 * 2 + 1);
        g = gate(1);
        h = get(g, 4, 0, 1);
        g.show(4, 0, h, 0);
        due("his own note is no way in", g.judge(0, 0, 0, 0, 2), NONE);
    }

    private static void promise20JudgeStrangeNote() {
        about("promise 20");
        NoteGate g = gate(1);
        int x = get(g, 4, 0, 1);
        due("no pair", g.judge(1, 2, 0, 0, 3), NONE);
        g.tap(4);
        g.ask(2, 0, 1);
        due("he knows the pair", g.judge(1, 2, 0, 0, 3), 1);
        due("give", g.found(0), 400 + 32 * 2 + x);
        due("another browser", g.judge(1, 1, 0, 0, 1), NONE);
        due("no moves", g.judge(1, 2, 0, 0, 0), NONE);
        g.tap(0);
        g.ask(2, 0, 1);
        due("a later pair", g.judge(1, 2, 0, 0, 2), NONE);
        g.checks(255 - 16);
        due("check 4 off", g.judge(1, 2, 0, 0, 2), 1);
        g.fake(2, x);
        due("by the letter", g.judge(1, 2, 0, 0, 2), 1);
        due("a letter has the least number", g.found(0), 2);
        g.deliver(2);
        due("it has it", g.judge(1, 2, 0, 0, 0), 0);
        due("of no moves", g.found(0), NONE);
        due("one state", g.count(11), 1);
        due("his own refresh will do", g.judge(1, 3, 0, 0, 1), 1);
        g = gate(1);
        g.tap(1);
        x = get(g, 0, 0, 1);
        g.ask(0, 0, 1);
        due("its own notes", g.judge(1, 0, 0, 0, 1), NONE);
        g.checks(255 - 16);
        due("another's", g.judge(1, 1, 0, 0, 1), 1);
        due("another's", g.found(0), 400 + 32 + x);
    }

    private static void promise20JudgeWrong() {
        about("promise 20");
        NoteGate g = gate(1);
        g.tap(1);
        get(g, 0, 0, 1);
        due("a way", g.judge(0, 0, 0, 0, 1), 1);
        int states = g.count(11);
        int[][] bad = {{-1, 0, 0, 0, 1}, {2, 0, 0, 0, 1}, {0, -1, 0, 0, 1}, {0, 1, 0, 0, 1}, {0, 0, -1, 0, 1}, {0, 0, 4, 0, 1},
            {0, 0, 0, -1, 1}, {0, 0, 0, 8, 1}, {0, 0, 0, 0, -1}, {0, 0, 0, 0, 7}, {1, -1, 0, 0, 1}, {1, 4, 0, 0, 1},
            {1, 0, 1, 0, 1}, {1, 0, -1, 0, 1}, {1, 0, 0, 8, 1}, {1, 0, 0, -1, 1}, {1, 0, 0, 0, 7}, {MIN, MIN, MIN, MIN, MIN},
            {0, MAX, 0, 0, 1}};
        for (int[] b : bad) {
            due("wrong", g.judge(b[0], b[1], b[2], b[3], b[4]), -2);
            due("wrong", g.stops(b[0], b[1], b[2], b[3], b[4]), -2);
            due("what was told stays", g.found(0), 100);
            due("what was told stays", g.count(11), states);
        }
        due("the most moves", g.judge(0, 0, 3, 7, 6) == -2 ? 1 : 0, 0);
    }

    private static void promise20JudgeOrder() {
        about("promise 20");
        NoteGate g = gate(2);
        g.tap(1);
        int x = get(g, 0, 0, 1);
        int y = get(g, 0, 0, 1);
        due("the least note", g.judge(0, 0, 0, 0, 2), 1);
        due("the least note", g.found(0), 100 + 4 * x);
        due("one state was come to", g.count(11), 1);
        due("none: house 1", g.judge(0, 1, 0, 0, 1), NONE);
        // the first; shows of x, y at 0; turns of x + 1, y + 1; a tick
        due("states", g.count(11), 6);
        due("none: house 1", g.judge(0, 1, 0, 0, 0), NONE);
        due("the first alone", g.count(11), 1);
        g.tick(1);
        g.ask(0, 0, 1);
        due("pair known", g.judge(1, 0, 0, 0, 1), NONE);
        // besides: the ask comes; gives of x, x + 1, y, y + 1 to browser 0, all alike
        due("alike states count once", g.count(11), 8);
        due("x, y", y, x + 2);
    }

    private static void promise20JudgeFull() {
        about("promise 20");
        NoteGate g = gate(4);
        g.tap(1);
        g.terms(500, 5000, 20, 10, 0, 100, 10);
        for (int i = 0; i < 5; i++) {
            get(g, 0, 3, 1);
        }
        g.checks(0);
        due("full", g.judge(0, 0, 1, 0, 3), -4);
        due("300", g.count(11), 300);
        due("none found", g.found(0), NONE);
        due("one move is not full", g.judge(0, 0, 1, 0, 1), NONE);
        // the first; 5 notes at 4 houses; 5 turns; a tick; 4 browsers, 10 notes, but 0 has all that it is given
        due("states", g.count(11), 1 + 20 + 5 + 1 + 30);
        due("a way ahead of it", g.judge(0, 0, 0, 0, 6), 1);
        due("which comes first", g.count(11), 1);
        due("stops is full too", g.stops(0, 0, 1, 0, 3), -4);
        due("what judge told stays", g.count(11), 1);
        due("what judge told stays", g.found(0), 100);
        g.checks(255);
        due("nothing is off", g.stops(0, 0, 1, 0, 3), 0);
    }

    private static void promise20JudgeLeavesAllAsItIs() {
        about("promise 20");
        NoteGate g = gate(2);
        g.tap(1);
        int x = get(g, 0, 0, 1);
        g.show(0, 0, x, 0);
        g.ask(1, 0, 1);
        g.turn(0, x + 1);
        g.checks(0);
        g.judge(0, 1, 3, 0, 4);
        g.stops(1, 3, 0, 0, 2);
        g.longest(x, 0, 0);
        due("time", g.count(0), 0);
        due("notes", g.count(2), 2);
        due("families", g.count(3), 1);
        due("letters", g.count(4), 3);
        due("log", g.count(5), 0);
        due("shows", g.count(6), 0);
        due("checks", g.count(7), 0);
        due("lost", g.count(10), 0);
        due("who has it", g.note(x, 10), 17);
        due("turned", g.note(x + 1, 9), 0);
        due("let in", g.houseOf(0, 6), 0);
        due("pair", g.browser(0, 1), 3);
        due("next pair", g.ask(0, 0, 1), 4);
    }

    private static void promise21Found() {
        about("promise 21");
        NoteGate g = gate(1);
        due("ahead of any", g.found(0), NONE);
        g.tap(1);
        get(g, 0, 0, 1);
        g.judge(0, 0, 0, 0, 6);
        due("the move", g.found(0), 100);
        due("none such", g.found(-1), NONE);
        due("none such", g.found(1), NONE);
        due("none such", g.found(6), NONE);
        due("none such", g.found(MAX), NONE);
        due("none such", g.found(MIN), NONE);
        g.stops(0, 0, 1, 0, 1);
        due("stops tells no row", g.found(0), 100);
        g.judge(0, 0, 1, 0, 1);
        due("it told none", g.found(0), NONE);
        g = gate(0);
        g.house(-7, false, 0);
        g.tap(1);
        get(g, 0, 0, 1);
        g.keeper(false);
        due("the longest row", g.judge(0, 0, 0, 0, 6), 6);
        due("its first", g.found(0), 600);
        due("its fifth", g.found(4), 600);
        due("its last", g.found(5), 100);
        due("no more", g.found(6), NONE);
    }

    private static void promise22Stops() {
        about("promise 22");
        NoteGate g = gate(0);
        g.house(0, true, 0);
        g.house(0, false, 0);
        g.tap(1);
        int x = get(g, 0, 0, 1);
        due("let in", shown(g, 0, 0, x, 0), 0);
        due("none is off", g.stops(0, 0, 0, 0, 1), 0);
        g.checks(0);
        due("once", g.stops(0, 0, 0, 0, 1), 4);
        due("for whom", g.stops(0, 1, 0, 0, 1), 1);
        g.checks(255 - 2);
        due("no way at all: each of them", g.stops(0, 0, 0, 0, 1), 2);
        g.checks(128);
        due("those that are on do not count", g.stops(0, 0, 0, 0, 1), 4);
        g.checks(0);
        g.end(0);
        g.deliver(0);
        g.tick(22);
        due("span, once, ended", g.stops(0, 0, 0, 0, 1), 2 + 4 + 8);
        due("checks are as they were", g.count(7), 0);
        g = gate(1);
        get(g, 4, 0, 1);
        g.checks(255 - 16 - 64);
        due("the pair", g.stops(1, 3, 0, 0, 2), 16);
        due("it has none of another's", g.stops(1, 3, 0, 0, 0), 16 + 64);
        g = gate(0);
        g.house(0, false, 1);
        g.tap(1);
        get(g, 0, 0, 1);
        g.tick(13);
        g.checks(255 - 128);
        due("fresh", g.stops(0, 0, 0, 0, 1), 128);
    }

    private static void promise23Longest() {
        about("promise 23");
        NoteGate g = gate(0);
        g.house(0, false, 2);
        g.house(-5, false, 0);
        g.house(3, false, 0);
        int x = get(g, 0, 0, 3);
        int[][] bad = {{-1, 0, 0}, {2, 0, 0}, {0, -1, 0}, {0, 3, 0}, {0, 0, -1}, {0, 0, 8}, {MAX, MAX, MAX}};
        for (int[] b : bad) {
            due("none such", g.longest(b[0], b[1], b[2]), -2);
        }
        due("till and skew", g.longest(x, 0, 0), 21);
        due("fresh and skew", g.longest(x, 0, 1), 12);
        due("no right", g.longest(x, 0, 2), NONE);
        due("a refresh", g.longest(x + 1, 0, 0), NONE);
        due("another's", g.longest(x, 1, 0), NONE);
        int y = get(g, 1, 1, 1);
        due("a clock behind", g.longest(y, 1, 0), 26);
        int z = get(g, 1, 2, 1);
        due("a clock ahead", g.longest(z, 2, 0), 18);
        g.tick(18);
        due("now for the last time", g.longest(z, 2, 0), 0);
        g.tick(1);
        due("never more", g.longest(z, 2, 0), NONE);
        g = gate(1);
        x = get(g, 0, 0, 1);
        g.end(0);
        due("until over comes", g.longest(x, 0, 0), 4);
        g.lose(0);
        due("until it is heard", g.longest(x, 0, 0), 9);
        g.keeper(false);
        due("never heard", g.longest(x, 0, 0), 21);
        g.checks(255 - 2);
        due("as far as is looked", g.longest(x, 0, 0), 1100);
        g.terms(1000, 10000, 20, 100, 1000, 100, 0);
        due("patience", g.longest(x, 0, 0), 1000);
        g.keeper(true);
        g.throwOut(0);
        due("out", g.longest(x, 0, 0), NONE);
        g = new NoteGate();
        g.house(0, true, 0);
        g.prove(0);
        x = get(g, 0, 0, 1);
        g.show(0, 0, x, 0);
        due("until the show comes at one that is once", g.longest(x, 0, 0), 4);
    }

    private static void promise24Note() {
        about("promise 24");
        NoteGate g = gate(1);
        g.tick(2);
        g.prove(2);
        g.tick(1);
        get(g, 2, 0, 5);
        int[] note = {0, 2, 0, 5, 3, 23, 0, 2, NONE, 0, 4};
        for (int what = 0; what < note.length; what++) {
            due("note(0, " + what + ")", g.note(0, what), note[what]);
        }
        due("what", g.note(0, -1), -2);
        due("what", g.note(0, 11), -2);
        due("what", g.note(0, MAX), -2);
        due("none such", g.note(-1, 0), -2);
        due("none such", g.note(2, 0), -2);
        due("none such", g.note(MIN, 0), -2);
    }

    private static void promise25Letter() {
        about("promise 25");
        NoteGate g = gate(2);
        g.tick(3);
        g.ask(1, 1, 9);
        int[] letter = {1, 9, 0, 1, 9, 1, 3};
        told(g, 0, letter);
        due("what", g.letter(0, -1), -2);
        due("what", g.letter(0, 7), -2);
        due("none such", g.letter(-1, 0), -2);
        due("none such", g.letter(1, 0), -2);
        due("none such", g.letter(MAX, MAX), -2);
    }

    private static void promise26Family() {
        about("promise 26");
        NoteGate g = gate(1);
        get(g, 3, 0, 1);
        due("person", g.family(0, 0), 3);
        due("not ended", g.family(0, 1), NONE);
        g.tick(6);
        g.end(0);
        due("ended", g.family(0, 1), 6);
        due("what", g.family(0, 2), -2);
        due("what", g.family(0, -1), -2);
        due("none such", g.family(1, 0), -2);
        due("none such", g.family(-1, 0), -2);
    }

    private static void promise27HouseOf() {
        about("promise 27");
        NoteGate g = gate(0);
        g.house(0, false, 0);
        g.tick(2);
        g.house(-20, true, 129);
        int[] house = {1, -20, 1, 129, 2, 0, 0, -18};
        for (int what = 0; what < house.length; what++) {
            due("houseOf(1, " + what + ")", g.houseOf(1, what), house[what]);
        }
        g.checks(255 - 2);
        int x = get(g, 0, 1, 1);
        shown(g, 0, 1, x, 0);
        g.end(0);
        g.deliver(0);
        g.tick(8);
        g.throwOut(1);
        int[] later = {0, -20, 1, 129, 10, 1, 1, -10};
        for (int what = 0; what < later.length; what++) {
            due("houseOf(1, " + what + ")", g.houseOf(1, what), later[what]);
        }
        due("what", g.houseOf(1, 8), -100);
        due("what", g.houseOf(1, -1), -100);
        due("none such", g.houseOf(2, 0), -100);
        due("none such", g.houseOf(-1, 0), -100);
        due("none such", g.houseOf(MAX, 0), -100);
    }

    private static void promise28Browser() {
        about("promise 28");
        NoteGate g = new NoteGate();
        g.house(0, false, 0);
        g.tick(5);
        g.prove(2);
        g.tap(4);
        g.ask(2, 0, 1);
        due("proved", g.browser(2, 0), 5);
        due("pair", g.browser(2, 1), 1);
        due("known", g.browser(2, 2), 1);
        g.deliver(0);
        g.tap(0);
        g.deliver(0);
        due("none any more", g.browser(2, 1), 0);
        due("still known", g.browser(2, 2), 1);
        due("what", g.browser(2, 3), -2);
        due("what", g.browser(2, -1), -2);
        due("none such", g.browser(5, 0), -2);
        due("none such", g.browser(-1, 0), -2);
        due("the thief", g.browser(4, 0), NONE);
    }

    private static void promise29Log() {
        about("promise 29");
        NoteGate g = gate(2);
        int x = get(g, 0, 0, 4);
        shown(g, 0, 1, x, 6);
        g.tick(3);
        shown(g, 0, 0, x, 2);
        int[] first = {0, 1, 0, x, 6, 3};
        int[] second = {3, 0, 0, x, 2, 0};
        for (int what = 0; what < first.length; what++) {
            due("log(0, " + what + ")", g.log(0, what), first[what]);
            due("log(1, " + what + ")", g.log(1, what), second[what]);
        }
        due("what", g.log(0, 6), -2);
        due("what", g.log(0, -1), -2);
        due("none such", g.log(2, 0), -2);
        due("none such", g.log(-1, 0), -2);
        for (int i = 0; i < 59; i++) {
            shown(g, 5, 1, x, i % 8);
        }
        due("kept", g.count(5), 60);
        due("came", g.count(6), 61);
        due("the earliest that is kept", g.log(0, 0), 3);
        due("the earliest that is kept", g.log(0, 1), 0);
        due("the latest", g.log(59, 4), 58 % 8);
        due("the latest", g.log(59, 2), 5);
        due("no more", g.log(60, 0), -2);
        shown(g, 0, 0, x, 2);
        due("one less", g.log(0, 4), 0);
        due("one more", g.log(59, 4), 2);
    }

    private static void promise30Where() {
        about("promise 30");
        NoteGate g = gate(2);
        due("no such person", g.where(-1, 0), -2);
        due("no such person", g.where(5, 0), -2);
        due("no such house", g.where(0, -1), -2);
        due("no such house", g.where(0, 2), -2);
        int x = get(g, 0, 0, 1);
        due("none", g.where(0, 0), NONE);
        g.tick(2);
        shown(g, 0, 0, x, 0);
        g.tick(1);
        shown(g, 0, 0, x, 0);
        g.tick(1);
        shown(g, 0, 0, x, 1);
        shown(g, 0, 1, x, 0);
        due("the latest that was let in", g.where(0, 0), 3);
        due("another house", g.where(0, 1), NONE);
        due("another person", g.where(1, 0), NONE);
        int y = get(g, 4, 1, 1);
        shown(g, 4, 1, y, 0);
        due("the thief", g.where(4, 1), 4);
        for (int i = 0; i < 58; i++) {
            shown(g, 0, 0, x, 1);
        }
        due("kept no more", g.where(0, 0), NONE);
        due("kept still", g.where(4, 1), 4);
    }

    private static void promise31Count() {
        about("promise 31");
        NoteGate g = gate(2);
        g.tick(3);
        g.tap(6);
        g.checks(251);
        get(g, 0, 0, 1);
        get(g, 0, 1, 1);
        shown(g, 0, 0, 0, 0);
        g.keeper(false);
        for (int i = 0; i < 15; i++) {
            g.show(0, 0, 0, 0);
        }
        g.judge(0, 0, 1, 0, 0);
        g.row(2, 0, 0);
        g.row(3, 3, 60);
        int[] counts = {3, 2, 4, 2, 12, 1, 1, 251, 0, 6, 3, 1, 2};
        for (int what = 0; what < counts.length; what++) {
            due("count(" + what + ")", g.count(what), counts[what]);
        }
        due("others", g.count(-1), NONE);
        due("others", g.count(13), NONE);
        due("others", g.count(MAX), NONE);
        due("others", g.count(MIN), NONE);
    }

    private static void promise32Row() {
        about("promise 32");
        NoteGate g = new NoteGate();
        due("slot", g.row(-1, 0, 1), -2);
        due("slot", g.row(4, 0, 1), -2);
        due("slot, and n below 0", g.row(4, 0, -1), -2);
        due("width", g.row(0, -1, 1), -2);
        due("width", g.row(0, 4, -1), -2);
        due("n", g.row(0, 0, 61), -2);
        due("n", g.row(0, 0, MAX), -2);
        due("n", g.row(0, 0, -1), -3);
        due("n", g.row(0, 0, MIN), -3);
        due("none", g.count(12), 0);
        due("row", g.row(0, 0, 60), 0);
        due("the last", g.write(0, 59, 1L), 0);
        due("beyond", g.write(0, 60, 1L), -6);
        due("stays", g.row(0, 0, -1), -3);
        due("stays", g.row(0, 0, 61), -2);
        due("stays", g.write(0, 59, 1L), 0);
        due("of none", g.row(0, 3, 0), 0);
        due("in place of another", g.write(0, 0, 1L), -6);
        due("one slot", g.count(12), 1);
        g.row(1, 2, 2);
        g.write(1, 0, 8L);
        due("8 is no act", g.script(1), 0);
        due("8 is no act", g.why(), 4);
        g.row(1, 2, 2);
        due("all 0", g.script(1), 0);
        due("all 0: within an ask", g.why(), 6);
    }

    private static void promise33Tear() {
        about("promise 33");
        NoteGate g = new NoteGate();
        no("none such", g.tear(-1));
        no("none such", g.tear(4));
        no("nothing", g.tear(3));
        g.row(3, 0, 0);
        yes("tear", g.tear(3));
        no("nothing any more", g.tear(3));
        due("nothing", g.write(3, 0, 0L), -5);
        due("none", g.count(12), 0);
    }

    private static void promise34Write() {
        about("promise 34");
        NoteGate g = new NoteGate();
        g.house(0, false, 0);
        due("slot", g.write(-1, 0, 0L), -2);
        due("slot", g.write(4, 0, 0L), -2);
        due("nothing", g.write(0, -1, 0L), -5);
        for (int width = 0; width < 4; width++) {
            g.row(0, width, 2);
            due("beyond", g.write(0, -1, 0L), -6);
            due("beyond", g.write(0, 2, 0L), -6);
            due("beyond", g.write(0, MAX, 0L), -6);
            due("beyond", g.write(0, MIN, 0L), -6);
            int bits = 8 << width;
            long above = width == 3 ? 0L : 1L << bits;
            due("act", g.write(0, 0, 5L + above), 0);
            due("ticks", g.write(0, 1, 1L - above), 0);
            due("cut to its width", g.script(0), 1);
            due("cut to its width", g.count(0), width + 1);
            long half = 1L << (bits - 1);
            due("a half is below 0", g.write(0, 1, half + 1L), 0);
            due("a half is below 0", g.script(0), 0);
            due("a half is below 0", g.why(), width == 3 ? 4 : 3);
        }
        g.row(0, 1, 2);
        g.write(0, 0, 5L);
        g.write(0, 1, 300L);
        due("two bytes hold 300", g.script(0), 1);
        due("two bytes hold 300", g.count(0), 304);
    }

    private static void promise35Paste() {
        about("promise 35");
        NoteGate g = new NoteGate();
        g.row(0, 2, 4);
        g.row(1, 2, 6);
        g.row(2, 1, 6);
        due("slot", g.paste(-1, 0, 0, 0, 1), -2);
        due("slot", g.paste(0, 0, 4, 0, 1), -2);
        due("nothing", g.paste(3, 0, 0, 0, 1), -5);
        due("nothing", g.paste(0, 0, 3, -1, -1), -5);
        due("width", g.paste(0, 0, 2, 0, 1), -7);
        due("width", g.paste(0, -1, 2, 0, 99), -7);
        int[][] beyond = {{-1, 0, 1}, {0, -1, 1}, {0, 0, -1}, {0, 0, 5}, {1, 0, 4}, {0, 3, 4}, {4, 0, 1}, {1, 0, MAX}, {MAX, 0, 1},
            {MAX, MAX, MAX}, {0, MAX, 1}, {MIN, 0, 0}, {0, MIN, 0}, {0, 0, MIN}};
        for (int[] b : beyond) {
            due("beyond", g.paste(0, b[0], 1, b[1], b[2]), -6);
        }
        due("all", g.paste(0, 0, 1, 2, 4), 0);
        due("none", g.paste(0, 4, 1, 6, 0), 0);
        g.write(0, 0, 5L);
        g.write(0, 1, 1L);
        g.write(0, 2, 5L);
        g.write(0, 3, 2L);
        due("to another", g.paste(0, 0, 1, 2, 4), 0);
        due("from its own, as they were", g.paste(1, 2, 1, 0, 4), 0);
        due("5 1 5 2 5 2", g.script(1), 3);
        due("5 1 5 2 5 2", g.count(0), 5);
        due("to behind, as they were", g.paste(1, 0, 1, 2, 4), 0);
        due("5 1 5 1 5 2", g.script(1), 3);
        due("5 1 5 1 5 2", g.count(0), 9);
        due("the source is as it was", g.script(0), 2);
        due("the source is as it was", g.count(0), 12);
    }

    private static void promise36Script() {
        about("promise 36");
        NoteGate g = gate(2);
        due("slot", g.script(-1), -2);
        due("slot", g.script(4), -2);
        due("nothing", g.script(0), -5);
        g.tap(1);
        fill(g, 0, 0, 6, 0, 0, 0, 0, 3, 4, 0, 4, 0, 2, 0, 0, 0, 0, 4, 0, 3, 0, 0, 1, 1, 4, 0, 4, 0, 1, 0, 1, 7, 1, 0, 5, 2);
        due("all acts", g.script(0), 12);
        due("all acts", g.why(), 0);
        due("asked, handed", g.count(2), 3);
        due("let in", g.where(0, 0), 0);
        due("turned, faked", g.count(4), 2);
        due("turn", g.letter(0, 2), 3);
        due("fake", g.letter(1, 0), 4);
        due("ticked", g.count(0), 2);
        int[][] refused = {{0, 5, 0, 1}, {1, 0, 0}, {2, 1, 0, 0, 0}, {3, 1, 0, 0, 1}, {4, 9}, {5, 0}, {6, 5}, {7, 0, 9}};
        for (int[] act : refused) {
            long[] numbers = new long[act.length + 2];
            numbers[0] = 6;
            for (int i = 0; i < act.length; i++) {
                numbers[i + 2] = act[i];
            }
            fill(g, 1, 2, numbers);
            due("refused", g.script(1), 1);
            due("refused", g.why(), 3);
        }
        fill(g, 1, 1, 5, 1, 0, 0, 0, 1, 4, 2, 5, 1);
        due("a letter of which nothing came is no refusal", g.script(1), 4);
        g = gate(0);
        fill(g, 1, 1, 6, 0, 6, 4, 6, 5, 6, 1);
        due("up to the first that is refused", g.script(1), 2);
        due("slot stays", g.script(1), 2);
    }

    private static void promise36NumbersInTheirPlaces() {
        about("promise 36");
        NoteGate g = gate(4);
        get(g, 0, 0, 1);
        get(g, 0, 0, 1);
        fill(g, 2, 1, 0, 3, 2, 7, 4, 0, 4, 0, 2, 3, 2, 4, 1);
        due("ask, deliver, deliver, show", g.script(2), 4);
        int[][] letters = {{3, 7, 2, 4, 1, 0}, {7, 9, 4, 4, 1, 6}, {3, 9, 3, 5, NONE, 4}, {4, 2, 1, 6, NONE, 0}};
        told(g, 0, letters[0]);
        due("person", g.note(4, 1), 3);
        due("house", g.note(4, 2), 2);
        due("rights", g.note(4, 3), 7);
        g.deliver(0);
        fill(g, 2, 2, 3, 2, 4, 1, 6);
        due("hand", g.script(2), 1);
        told(g, 0, letters[1]);
        g.lose(0);
        fill(g, 2, 2, 1, 3, 5);
        due("turn", g.script(2), 1);
        told(g, 0, letters[2]);
        g.lose(0);
        get(g, 4, 0, 1);
        fill(g, 2, 2, 7, 2, 6);
        due("fake", g.script(2), 1);
        told(g, 0, letters[3]);
        g.tick(3);
        fill(g, 2, 2, 6, 2);
        due("prove", g.script(2), 1);
        due("prove", g.browser(2, 0), 3);
        g.ask(0, 0, 1);
        fill(g, 2, 2, 4, 1);
        due("deliver", g.script(2), 1);
        due("deliver", g.letter(0, 2), 1);
        due("deliver", g.letter(1, 1), 0);
    }

    private static void promise37Why() {
        about("promise 37");
        NoteGate g = gate(1);
        due("ahead of any", g.why(), NONE);
        g.script(0);
        g.script(9);
        due("ahead of any", g.why(), NONE);
        fill(g, 0, 3);
        due("empty", g.script(0), 0);
        due("at its end", g.why(), 0);
        fill(g, 0, 3, 5, 1, 8);
        due("none", g.script(0), 1);
        due("none", g.why(), 4);
        fill(g, 0, 3, -1, 1);
        due("none", g.script(0), 0);
        due("none", g.why(), 4);
        fill(g, 0, 3, 5, 1, 1L << 32);
        due("no int", g.script(0), 1);
        due("no int", g.why(), 4);
        fill(g, 0, 3, (1L << 32) + 5, 1);
        due("no int", g.script(0), 0);
        due("no int", g.why(), 4);
        fill(g, 0, 3, 0, 1L << 31, 0);
        due("no int, and not whole: the first", g.script(0), 0);
        due("no int, and not whole: the first", g.why(), 4);
        fill(g, 0, 3, 0, 0, 0);
        due("within one", g.script(0), 0);
        due("within one", g.why(), 6);
        fill(g, 0, 3, 5, MAX);
        due("an int all the same", g.script(0), 0);
        due("an int all the same", g.why(), 3);
        fill(g, 0, 3, 5, -(1L << 31) - 1);
        due("no int", g.script(0), 0);
        due("no int", g.why(), 4);
        fill(g, 0, 3, 5, 1, 5);
        due("within the last", g.script(0), 1);
        due("within the last", g.why(), 6);
        g.script(3);
        g.script(-1);
        due("the latest that was one", g.why(), 6);
        fill(g, 0, 3, 5, 1);
        g.script(0);
        due("at its end", g.why(), 0);
    }
}
