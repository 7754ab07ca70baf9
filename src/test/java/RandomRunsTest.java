import java.util.ArrayList;
import java.util.List;
import java.util.Random;

/** Random runs of at most 512 calls, each answer against that of the model; the seeds are fixed. */
public final class RandomRunsTest {
    private static final int LONG_RUNS = 700;
    private static final int JUDGED_RUNS = 2500;
    private static final int SCRIPT_RUNS = 400;
    private static final int MOST_CALLS = 500;
    private static final int MOST_TOLD = 5;

    private final Random random;
    private final NoteGate gate = new NoteGate();
    private final Model model = new Model();
    private final List<String> told = new ArrayList<>();
    private boolean wrong = false;

    private RandomRunsTest(long seed) {
        random = new Random(seed);
    }

    public static void main(String[] args) {
        int wrongRuns = 0;
        long calls = 0;
        for (int seed = 0; seed < LONG_RUNS + JUDGED_RUNS + SCRIPT_RUNS && wrongRuns < MOST_TOLD; seed++) {
            RandomRunsTest run = new RandomRunsTest(seed);
            if (seed < LONG_RUNS) {
                run.mixed();
            } else if (seed < LONG_RUNS + JUDGED_RUNS) {
                run.judged();
            } else {
                run.scripted();
            }
            calls += run.told.size();
            if (run.wrong) {
                wrongRuns++;
                System.out.println("run " + seed + ", call " + run.told.size());
                run.told.subList(Math.max(0, run.told.size() - 40), run.told.size()).forEach(System.out::println);
            }
        }
        System.out.println(wrongRuns == 0 ? calls + " calls are as due" : "wrong runs: " + wrongRuns);
        if (wrongRuns != 0) {
            System.exit(1);
        }
    }

    private void due(String call, long got, long want) {
        told.add("  " + call + " answered " + got + (got == want ? "" : ", due is " + want));
        wrong |= got != want;
    }

    private void due(String call, boolean got, boolean want) {
        due(call, got ? 1 : 0, want ? 1 : 0);
    }

    /** A number of a .. b, now and then one just outside or far off. */
    private int of(int a, int b) {
        int r = random.nextInt(60);
        if (r == 0) { return a - 1; }
        if (r == 1) { return b + 1; }
        if (r == 2 && random.nextInt(4) == 0) { return random.nextBoolean() ? Integer.MAX_VALUE : Integer.MIN_VALUE; }
        return b < a ? a : a + random.nextInt(b - a + 1);
    }

    private boolean chance(int of100) { return random.nextInt(100) < of100; }

    private int aNote() { return of(0, model.s.notes.size() - 1); }

    private int aHouse() { return of(0, Math.max(0, model.s.houses.size() - 1)); }

    private int aLetter() { return of(0, model.s.post.size() - 1); }

    private int aBrowser() { return of(0, 4); }

    private int someRights() { return chance(50) ? 255 : of(1, 255); }

    /** A note that a holder has, if there is one. */
    private int noteOf(int holder, boolean refresh) {
        List<Integer> fit = new ArrayList<>();
        for (int x = 0; x < model.s.notes.size(); x++) {
            if (model.s.has(holder, x) && (model.s.notes.get(x).kind == 1) == refresh) { fit.add(x); }
        }
        return fit.isEmpty() || chance(4) ? aNote() : fit.get(random.nextInt(fit.size()));
    }

    private int holderOf(int note) {
        if (!model.s.isNote(note) || model.s.notes.get(note).holders.isEmpty() || chance(5)) { return of(0, 9); }
        List<Integer> have = new ArrayList<>(model.s.notes.get(note).holders);
        return have.get(random.nextInt(have.size()));
    }

    private boolean goesOn() { return !wrong && told.size() < MOST_CALLS; }

    private void mixed() {
        int houses = random.nextInt(5);
        for (int i = 0; i < houses; i++) { house(); }
        if (chance(50)) { terms(); }
        if (chance(60)) { tap(); }
        for (int b = 0; b < 5; b++) {
            if (chance(60)) { due("prove(" + b + ")", gate.prove(b), model.prove(b)); }
        }
        while (goesOn()) {
            int r = random.nextInt(1000);
            if (r < 450) { act(r); } else if (r < 900) { read(); } else if (r < 960) { slots(); } else { rare(); }
        }
    }

    /** Short runs with few notes, much read by the thief, and a question to the judge behind each few calls. */
    private void judged() {
        int houses = 1 + random.nextInt(3);
        for (int i = 0; i < houses; i++) { house(); }
        if (chance(40)) { terms(); }
        tap();
        for (int b = 0; b < 5; b++) {
            if (chance(70)) { due("prove(" + b + ")", gate.prove(b), model.prove(b)); }
        }
        int parts = 2 + random.nextInt(8);
        for (int i = 0; i < parts && goesOn(); i++) {
            int few = 1 + random.nextInt(4);
            for (int k = 0; k < few; k++) {
                if (chance(30)) { ask(); } else if (chance(10)) { rare(); } else { act(random.nextInt(405)); }
            }
            if (chance(30)) { checks(); }
            if (chance(10)) { tap(); }
            ahead();
            longest();
            read();
        }
    }

    private void scripted() {
        for (int i = 0; i < 3; i++) { house(); }
        tap();
        for (int i = 0; i < 6 && goesOn(); i++) { wholeScript(); }
        while (goesOn()) {
            if (chance(50)) { read(); } else { slots(); }
        }
    }

    /** A script that is mostly well made, written number by number. */
    private void wholeScript() {
        int at = random.nextInt(4);
        int width = random.nextInt(4);
        int n = 10 + random.nextInt(51);
        due("row(" + at + ", " + width + ", " + n + ")", gate.row(at, width, n), model.row(at, width, n));
        int[] need = {3, 2, 4, 4, 1, 1, 1, 2};
        int place = 0;
        while (place < n && goesOn()) {
            int act = place < 2 ? 6 : chance(2) ? 8 : chance(50) ? 4 : random.nextInt(8);
            write(at, place++, act);
            for (int i = 0; act < 8 && i < need[act] && place < n; i++) {
                long v = act == 4 ? 0 : act == 0 && i == 2 ? 1 + random.nextInt(127) : random.nextInt(3);
                write(at, place++, chance(1) ? 1L << random.nextInt(64) : act == 5 ? v + 1 : v);
            }
        }
        due("script(" + at + ")", gate.script(at), model.script(at));
        due("why()", gate.why(), model.why());
        due("count(2)", gate.count(2), model.count(2));
        due("count(0)", gate.count(0), model.count(0));
    }

    private void write(int at, int i, long v) {
        due("write(" + at + ", " + i + ", " + v + ")", gate.write(at, i, v), model.write(at, i, v));
    }

    private void act(int r) {
        if (r < 55) { ask(); }
        else if (r < 85) { turn(); }
        else if (r < 165) { show(); }
        else if (r < 200) { hand(); }
        else if (r < 225) { fake(); }
        else if (r < 375) { int i = aLetter(); due("deliver(" + i + ")", gate.deliver(i), model.deliver(i)); }
        else if (r < 395) { int i = aLetter(); due("copy(" + i + ")", gate.copy(i), model.copy(i)); }
        else if (r < 405) { int i = aLetter(); due("lose(" + i + ")", gate.lose(i), model.lose(i)); }
        else { tick(); }
    }

    private void ask() {
        int b = aBrowser();
        int h = aHouse();
        int rights = someRights();
        due("ask(" + b + ", " + h + ", " + rights + ")", gate.ask(b, h, rights), model.ask(b, h, rights));
    }

    private void turn() {
        int b = aBrowser();
        int x = noteOf(b, true);
        due("turn(" + b + ", " + x + ")", gate.turn(b, x), model.turn(b, x));
    }

    private void show() {
        int x = aNote();
        int by = holderOf(x);
        int h = model.s.isNote(x) && chance(70) ? model.s.notes.get(x).house : aHouse();
        int right = of(0, 7);
        due("show(" + by + ", " + h + ", " + x + ", " + right + ")", gate.show(by, h, x, right), model.show(by, h, x, right));
    }

    private void hand() {
        int h = aHouse();
        int x = noteOf(5 + h, false);
        int helper = aHouse();
        int rights = chance(20) ? 1 << random.nextInt(8) : someRights();
        due("hand(" + h + ", " + x + ", " + helper + ", " + rights + ")", gate.hand(h, x, helper, rights),
            model.hand(h, x, helper, rights));
    }

    private void fake() {
        int b = of(0, 3);
        int x = noteOf(4, chance(30));
        due("fake(" + b + ", " + x + ")", gate.fake(b, x), model.fake(b, x));
    }

    private void tick() {
        int n = chance(70) ? of(1, 4) : chance(80) ? of(1, 30) : of(1, 500);
        due("tick(" + n + ")", gate.tick(n), model.tick(n));
    }

    private void house() {
        int off = of(-20, 20) / (chance(60) ? 8 : 1);
        boolean once = chance(30);
        int dear = chance(50) ? 0 : of(0, 255);
        due("house(" + off + ", " + once + ", " + dear + ")", gate.house(off, once, dear), model.house(off, once, dear));
    }

    private void terms() {
        int life = chance(70) ? of(1, 30) : of(1, 1000);
        int longer = chance(70) ? of(1, 80) : of(1, 10000);
        int skew = chance(70) ? of(0, 3) : of(0, 20);
        int each = of(1, 100) / (chance(70) ? 5 : 1);
        int patience = chance(40) ? 0 : of(0, 1000) / (chance(70) ? 50 : 1);
        int late = chance(60) ? of(1, 10) : of(1, 100);
        int fresh = of(0, 1000) / (chance(80) ? 50 : 1);
        due("terms(" + List.of(life, longer, skew, each, patience, late, fresh) + ")",
            gate.terms(life, longer, skew, each, patience, late, fresh),
            model.terms(life, longer, skew, each, patience, late, fresh));
    }

    private void tap() {
        int set = chance(50) ? 1 << random.nextInt(9) : of(0, 511);
        due("tap(" + set + ")", gate.tap(set), model.tap(set));
    }

    private void rare() {
        int r = random.nextInt(100);
        if (r < 10) { house(); }
        else if (r < 14) { terms(); }
        else if (r < 22) { tap(); }
        else if (r < 36) { checks(); }
        else if (r < 38) { int h = aHouse(); due("throwOut(" + h + ")", gate.throwOut(h), model.throwOut(h)); }
        else if (r < 46) { boolean up = chance(80); due("keeper(" + up + ")", gate.keeper(up), model.keeper(up)); }
        else if (r < 60) { int b = aBrowser(); due("prove(" + b + ")", gate.prove(b), model.prove(b)); }
        else if (r < 66) { int b = aBrowser(); due("leave(" + b + ")", gate.leave(b), model.leave(b)); }
        else if (r < 74) { int f = of(0, model.s.families.size() - 1); due("end(" + f + ")", gate.end(f), model.end(f)); }
        else if (r < 80) { longest(); }
        else if (r < 82) { ahead(); }
    }

    private void checks() {
        int set = chance(30) ? 255 : chance(60) ? 255 & ~(1 << random.nextInt(8)) : of(0, 255);
        due("checks(" + set + ")", gate.checks(set), model.checks(set));
    }

    private void longest() {
        int x = aNote();
        int h = model.s.isNote(x) && chance(70) ? model.s.notes.get(x).house : aHouse();
        int right = of(0, 7);
        due("longest(" + x + ", " + h + ", " + right + ")", gate.longest(x, h, right), model.longest(x, h, right));
    }

    private void ahead() {
        int goal = of(0, 1);
        int a = goal == 0 ? aHouse() : of(0, 3);
        int b = goal == 0 ? of(0, 3) : chance(97) ? 0 : 1;
        int c = of(0, 7);
        int n = of(0, 6);
        String asked = "(" + goal + ", " + a + ", " + b + ", " + c + ", " + n + ")";
        if (chance(25)) {
            due("stops" + asked, gate.stops(goal, a, b, c, n), model.stops(goal, a, b, c, n));
        } else {
            due("judge" + asked, gate.judge(goal, a, b, c, n), model.judge(goal, a, b, c, n));
        }
        due("count(11)", gate.count(11), model.count(11));
        for (int i = 0; i < 3; i++) {
            due("found(" + i + ")", gate.found(i), model.found(i));
        }
    }

    private void read() {
        int r = random.nextInt(100);
        int x = aNote();
        int h = aHouse();
        int i;
        int what;
        if (r < 35) { what = of(0, 10); due("note(" + x + ", " + what + ")", gate.note(x, what), model.note(x, what)); }
        else if (r < 50) { i = aLetter(); what = of(0, 6); due("letter(" + i + ", " + what + ")", gate.letter(i, what), model.letter(i, what)); }
        else if (r < 55) { i = of(0, model.s.families.size() - 1); what = of(0, 1); due("family(" + i + ", " + what + ")", gate.family(i, what), model.family(i, what)); }
        else if (r < 67) { what = of(0, 7); due("houseOf(" + h + ", " + what + ")", gate.houseOf(h, what), model.houseOf(h, what)); }
        else if (r < 77) { i = aBrowser(); what = of(0, 2); due("browser(" + i + ", " + what + ")", gate.browser(i, what), model.browser(i, what)); }
        else if (r < 84) { i = of(0, model.s.log.size() - 1); what = of(0, 5); due("log(" + i + ", " + what + ")", gate.log(i, what), model.log(i, what)); }
        else if (r < 88) { i = aBrowser(); due("where(" + i + ", " + h + ")", gate.where(i, h), model.where(i, h)); }
        else if (r < 97) { what = of(0, 12); due("count(" + what + ")", gate.count(what), model.count(what)); }
        else if (r < 98) { i = of(0, 5); due("found(" + i + ")", gate.found(i), model.found(i)); }
        else { due("why()", gate.why(), model.why()); }
    }

    private void slots() {
        int r = random.nextInt(100);
        int at = of(0, 3);
        if (r < 15) {
            int width = of(0, 3);
            int n = chance(30) ? of(0, 60) : of(0, 12);
            due("row(" + at + ", " + width + ", " + n + ")", gate.row(at, width, n), model.row(at, width, n));
        } else if (r < 20) {
            due("tear(" + at + ")", gate.tear(at), model.tear(at));
        } else if (r < 65) {
            int i = of(0, 9);
            long v = chance(85) ? random.nextInt(8) : chance(50) ? random.nextInt(256) : random.nextLong() >> random.nextInt(64);
            write(at, i, v);
        } else if (r < 80) {
            int i = of(0, 5);
            int to = of(0, 3);
            int k = of(0, 5);
            int n = of(0, 4);
            due("paste(" + List.of(at, i, to, k, n) + ")", gate.paste(at, i, to, k, n), model.paste(at, i, to, k, n));
        } else {
            due("script(" + at + ")", gate.script(at), model.script(at));
            due("why()", gate.why(), model.why());
        }
    }
}
