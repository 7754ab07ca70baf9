import java.util.ArrayList;
import java.util.HashMap;
import java.util.List;
import java.util.Map;
import java.util.TreeSet;

/**
 * The document written a second time, as plainly as can be: objects, sets and texts, every legal
 * move tried and every state compared as a text. It is slow, and serves only to be compared with.
 */
final class Model {
    static final class Note {
        int kind, person, house, rights, from, till, family, proof, parent = -1;
        boolean turned;
        TreeSet<Integer> holders = new TreeSet<>();

        Note copy() {
            Note n = new Note();
            n.kind = kind; n.person = person; n.house = house; n.rights = rights; n.from = from; n.till = till;
            n.family = family; n.proof = proof; n.parent = parent; n.turned = turned;
            n.holders = new TreeSet<>(holders);
            return n;
        }

        @Override public String toString() {
            return List.of(kind, person, house, rights, from, till, family, proof, parent) + "" + turned + holders;
        }
    }

    static final class House {
        int off, dear, heard;
        boolean once, in = true;
        TreeSet<Integer> knows = new TreeSet<>();
        TreeSet<Integer> letIn = new TreeSet<>();

        House copy() {
            House h = new House();
            h.off = off; h.dear = dear; h.heard = heard; h.once = once; h.in = in;
            h.knows = new TreeSet<>(knows); h.letIn = new TreeSet<>(letIn);
            return h;
        }

        @Override public String toString() {
            return off + "," + dear + "," + heard + "," + once + "," + in + knows + letIn;
        }
    }

    record Letter(int from, int to, int kind, int x, int y, int z, int posted) { }

    record Entry(int time, int house, int holder, int note, int right, int verdict) { }

    /** All that I to III tell of, and the log and what was lost beside it. */
    static final class State {
        int life = 20, longer = 200, skew = 2, each = 10, patience = 0, late = 5, fresh = 10;
        int checks = 255, tapped = 0, time = 0, pairs = 0;
        boolean up = true;
        int[] proved = {-1, -1, -1, -1, -1};
        int[] pair = new int[5];
        int[] known = new int[5];
        List<House> houses = new ArrayList<>();
        List<Note> notes = new ArrayList<>();
        List<int[]> families = new ArrayList<>();
        List<Letter> post = new ArrayList<>();
        List<Entry> log = new ArrayList<>();
        int shows = 0, lost = 0;

        State copy() {
            State s = new State();
            s.life = life; s.longer = longer; s.skew = skew; s.each = each; s.patience = patience; s.late = late;
            s.fresh = fresh; s.checks = checks; s.tapped = tapped; s.time = time; s.pairs = pairs; s.up = up;
            s.proved = proved.clone(); s.pair = pair.clone(); s.known = known.clone();
            for (House h : houses) { s.houses.add(h.copy()); }
            for (Note n : notes) { s.notes.add(n.copy()); }
            for (int[] f : families) { s.families.add(f.clone()); }
            s.post.addAll(post);
            s.log.addAll(log);
            s.shows = shows; s.lost = lost;
            return s;
        }

        String key() {
            StringBuilder b = new StringBuilder();
            b.append(List.of(time, pairs, tapped, checks)).append(up).append(houses).append(notes).append(post);
            for (int[] f : families) { b.append(f[0]).append(':').append(f[1]).append(';'); }
            for (int i = 0; i < 5; i++) { b.append(List.of(proved[i], pair[i], known[i])); }
            return b.toString();
        }

        boolean on(int check) { return (checks & (1 << check)) != 0; }

        boolean tapped(int holder) { return holder <= 8 && (tapped & (1 << holder)) != 0; }

        boolean isHouse(int h) { return h >= 0 && h < houses.size(); }

        boolean isIn(int h) { return isHouse(h) && houses.get(h).in; }

        boolean isNote(int x) { return x >= 0 && x < notes.size(); }

        boolean has(int holder, int x) { return isNote(x) && notes.get(x).holders.contains(holder); }

        void post(Letter l) {
            if (post.size() == 12) { lost++; return; }
            post.add(l);
            if (!tapped(l.from) && !tapped(l.to)) { return; }
            if (l.kind == 1 || l.kind == 2 || l.kind == 3 || l.kind == 4) { notes.get(l.x).holders.add(4); }
            if (l.kind == 1 && l.y != -1) { notes.get(l.y).holders.add(4); }
            if ((l.kind == 0 || l.kind == 3) && l.from <= 3) { known[l.from] = l.z; }
            if (l.kind == 1 && l.to <= 3) { known[l.to] = l.z; }
        }

        int come(int i) {
            Letter l = post.remove(i);
            switch (l.kind) {
                case 0: return ask(l);
                case 1: return give(l);
                case 2: return show(l.from, l.to - 5, l.x, l.y);
                case 3: return turn(l, true);
                case 4: return hand(l);
                default: houses.get(l.to - 5).knows.add(l.x); return 1;
            }
        }

        int ask(Letter l) {
            if (!up || proved[l.from] == -1 || !isIn(l.x)) { return 0; }
            if (notes.size() > 30 || families.size() > 15) { return 0; }
            families.add(new int[] {l.from, -1});
            int x = add(0, l.from, l.x, l.y, time + life, families.size() - 1, proved[l.from]);
            int y = add(1, l.from, l.x, l.y, time + longer, families.size() - 1, proved[l.from]);
            post(new Letter(9, l.from, 1, x, y, l.z, time));
            return 1;
        }

        int add(int kind, int person, int house, int rights, int till, int family, int proof) {
            Note n = new Note();
            n.kind = kind; n.person = person; n.house = house; n.rights = rights; n.from = time; n.till = till;
            n.family = family; n.proof = proof;
            notes.add(n);
            return notes.size() - 1;
        }

        int turn(Letter l, boolean posted) {
            Note r = notes.get(l.x);
            if (!up || families.get(r.family)[1] != -1 || time >= r.till || !isIn(r.house)) { return 0; }
            if (r.turned && on(5)) { endFamily(r.family); return 1; }
            if (notes.size() > 30) { return 0; }
            r.turned = true;
            int x = add(0, r.person, r.house, r.rights, time + life, r.family, r.proof);
            int y = add(1, r.person, r.house, r.rights, r.till, r.family, r.proof);
            if (posted) {
                post(new Letter(9, l.from, 1, x, y, l.z, time));
            } else {
                notes.get(x).holders.add(4);
                notes.get(y).holders.add(4);
            }
            return 1;
        }

        int hand(Letter l) {
            Note p = notes.get(l.x);
            if (!up || families.get(p.family)[1] != -1 || time >= p.till || !isIn(l.y)) { return 0; }
            int rights = on(6) ? l.z & p.rights : l.z;
            if (rights == 0 || notes.size() > 31) { return 0; }
            int till = time + life;
            if (on(6) && p.till < till) { till = p.till; }
            int x = add(2, p.person, l.y, rights, till, p.family, p.proof);
            notes.get(x).parent = l.x;
            post(new Letter(9, l.from, 1, x, -1, 0, time));
            return 1;
        }

        int give(Letter l) {
            if (l.to <= 4) {
                if (on(4) && (pair[l.to] == 0 || pair[l.to] != l.z)) { return 0; }
                pair[l.to] = 0;
                if (l.y != -1) { notes.get(l.y).holders.add(l.to); }
            }
            notes.get(l.x).holders.add(l.to);
            return 1;
        }

        int verdict(int h, int x, int right) {
            House a = houses.get(h);
            Note n = notes.get(x);
            int c = time + a.off;
            if (!a.in) { return 1; }
            if (n.kind == 1) { return 2; }
            if (on(0) && n.house != h) { return 3; }
            if (on(1) && c < n.from - skew) { return 4; }
            if (on(1) && !(c < n.till + skew)) { return 5; }
            if (on(3) && a.knows.contains(n.family)) { return 6; }
            if (on(3) && patience > 0 && time - a.heard > patience) { return 7; }
            if (on(2) && a.once && a.letIn.contains(x)) { return 8; }
            if ((n.rights & (1 << right)) == 0) { return 9; }
            if (on(7) && (a.dear & (1 << right)) != 0 && c - n.proof > fresh + skew) { return 10; }
            return 0;
        }

        int show(int holder, int h, int x, int right) {
            int v = verdict(h, x, right);
            if (v == 0) {
                houses.get(h).letIn.add(x);
                notes.get(x).holders.add(5 + h);
            }
            shows++;
            log.add(new Entry(time, h, holder, x, right, v));
            if (log.size() > 60) { log.remove(0); }
            return v;
        }

        void endFamily(int f) {
            families.get(f)[1] = time;
            for (int h = 0; h < houses.size(); h++) {
                boolean concerned = false;
                for (Note n : notes) { concerned |= n.family == f && n.house == h && n.kind != 1; }
                if (concerned && isIn(h)) { post(new Letter(9, 5 + h, 5, f, -1, 0, time)); }
            }
        }

        void tick() {
            time++;
            if (up && time % each == 0) {
                for (House h : houses) {
                    if (!h.in) { continue; }
                    h.heard = time;
                    for (int f = 0; f < families.size(); f++) {
                        if (families.get(f)[1] != -1) { h.knows.add(f); }
                    }
                }
            }
            boolean more = true;
            while (more) {
                more = false;
                for (int i = 0; i < post.size() && !more; i++) {
                    if (time - post.get(i).posted >= late) { come(i); more = true; }
                }
            }
        }

        /** Whether a number is a move of the judge here. */
        boolean isMove(int m) {
            if (m < 12) { return m < post.size(); }
            if (m >= 100 && m < 228) {
                int x = (m - 100) / 4;
                return has(4, x) && notes.get(x).kind != 1 && isIn((m - 100) % 4);
            }
            if (m >= 300 && m < 332) { return has(4, m - 300) && notes.get(m - 300).kind == 1; }
            if (m >= 400 && m < 528) { return has(4, (m - 400) % 32); }
            return m == 600;
        }

        /** Does a move: whether it was a show of the thief's that was let in. */
        boolean move(int m, int c) {
            if (m < 12) {
                come(m);
            } else if (m < 300) {
                return show(4, (m - 100) % 4, (m - 100) / 4, c) == 0;
            } else if (m < 400) {
                turn(new Letter(4, 9, 3, m - 300, -1, 0, time), false);
            } else if (m < 600) {
                int b = (m - 400) / 32;
                give(new Letter(4, b, 1, (m - 400) % 32, -1, known[b], time));
            } else {
                tick();
            }
            return false;
        }
    }

    State s = new State();
    List<Integer> row = List.of();
    int came = 0;
    final int[] width = {-1, -1, -1, -1};
    final long[][] slot = new long[4][];
    int why = -1;

    private static boolean in(int v, int a, int b) { return v >= a && v <= b; }

    boolean terms(int life, int longer, int skew, int each, int patience, int late, int fresh) {
        if (life < 1 || life > 1000 || longer < 1 || longer > 10000 || skew < 0 || skew > 20) { return false; }
        if (each < 1 || each > 100 || patience < 0 || patience > 1000 || late < 1 || late > 100) { return false; }
        if (fresh < 0 || fresh > 1000) { return false; }
        s.life = life; s.longer = longer; s.skew = skew; s.each = each;
        s.patience = patience; s.late = late; s.fresh = fresh;
        return true;
    }

    int checks(int set) {
        if (!in(set, 0, 255)) { return -2; }
        int was = s.checks;
        s.checks = set;
        return was;
    }

    int house(int off, boolean once, int dear) {
        if (!in(off, -20, 20) || !in(dear, 0, 255)) { return -2; }
        if (s.houses.size() == 4) { return -3; }
        House h = new House();
        h.off = off; h.once = once; h.dear = dear; h.heard = s.time;
        s.houses.add(h);
        return s.houses.size() - 1;
    }

    boolean throwOut(int house) {
        if (!s.isIn(house)) { return false; }
        s.houses.get(house).in = false;
        return true;
    }

    boolean keeper(boolean up) {
        boolean was = s.up;
        s.up = up;
        return was;
    }

    int tap(int set) {
        if (!in(set, 0, 511)) { return -2; }
        int was = s.tapped;
        s.tapped = set;
        return was;
    }

    boolean prove(int browser) {
        if (!in(browser, 0, 4) || !s.up) { return false; }
        s.proved[browser] = s.time;
        return true;
    }

    int leave(int browser) {
        if (!in(browser, 0, 4)) { return -2; }
        if (!s.up) { return -3; }
        s.proved[browser] = -1;
        int n = 0;
        for (int f = 0; f < s.families.size(); f++) {
            if (s.families.get(f)[0] == browser && s.families.get(f)[1] == -1) {
                s.endFamily(f);
                n++;
            }
        }
        return n;
    }

    boolean end(int family) {
        if (!in(family, 0, s.families.size() - 1) || s.families.get(family)[1] != -1 || !s.up) { return false; }
        s.endFamily(family);
        return true;
    }

    int ask(int browser, int house, int rights) {
        if (!in(browser, 0, 4) || !s.isHouse(house) || !in(rights, 1, 255)) { return -2; }
        s.pair[browser] = ++s.pairs;
        s.post(new Letter(browser, 9, 0, house, rights, s.pairs, s.time));
        return s.pairs;
    }

    int turn(int browser, int note) {
        if (!in(browser, 0, 4) || !s.isNote(note)) { return -2; }
        if (!s.has(browser, note) || s.notes.get(note).kind != 1) { return -3; }
        s.pair[browser] = ++s.pairs;
        s.post(new Letter(browser, 9, 3, note, -1, s.pairs, s.time));
        return s.pairs;
    }

    boolean show(int holder, int house, int note, int right) {
        if (!in(holder, 0, 8) || !s.isHouse(house) || !in(right, 0, 7) || !s.has(holder, note)) { return false; }
        s.post(new Letter(holder, 5 + house, 2, note, right, 0, s.time));
        return true;
    }

    boolean hand(int house, int note, int helper, int rights) {
        if (!s.isHouse(house) || !s.isHouse(helper) || house == helper) { return false; }
        if (!s.has(5 + house, note) || !in(rights, 1, 255)) { return false; }
        s.post(new Letter(5 + house, 9, 4, note, helper, rights, s.time));
        return true;
    }

    boolean fake(int browser, int note) {
        if (!in(browser, 0, 3) || !s.has(4, note)) { return false; }
        s.post(new Letter(4, browser, 1, note, -1, s.known[browser], s.time));
        return true;
    }

    int deliver(int letter) { return in(letter, 0, s.post.size() - 1) ? s.come(letter) : -1; }

    boolean copy(int letter) {
        if (!in(letter, 0, s.post.size() - 1) || s.post.size() == 12) { return false; }
        Letter l = s.post.get(letter);
        s.post(new Letter(l.from, l.to, l.kind, l.x, l.y, l.z, s.time));
        return true;
    }

    boolean lose(int letter) {
        if (!in(letter, 0, s.post.size() - 1)) { return false; }
        s.post.remove(letter);
        return true;
    }

    int tick(int n) {
        if (!in(n, 1, 500)) { return -2; }
        if (s.time + n > 30000) { return -3; }
        for (int i = 0; i < n; i++) { s.tick(); }
        return s.time;
    }

    private boolean asked(int goal, int a, int b, int c, int n) {
        if (!in(c, 0, 7) || !in(n, 0, 6)) { return false; }
        return goal == 0 ? s.isHouse(a) && in(b, 0, 3) : goal == 1 && in(a, 0, 3) && b == 0;
    }

    int judge(int goal, int a, int b, int c, int n) {
        if (!asked(goal, a, b, c, n)) { return -2; }
        Search q = new Search(s, goal, a, b, c, n);
        row = q.row;
        came = q.came;
        return q.answer;
    }

    int found(int i) { return in(i, 0, row.size() - 1) ? row.get(i) : -1; }

    int stops(int goal, int a, int b, int c, int n) {
        if (!asked(goal, a, b, c, n)) { return -2; }
        int set = 0;
        for (int check = 0; check < 8; check++) {
            if (s.on(check)) { continue; }
            State with = s.copy();
            with.checks |= 1 << check;
            int answer = new Search(with, goal, a, b, c, n).answer;
            if (answer == -4) { return -4; }
            if (answer == -1) { set |= 1 << check; }
        }
        return set;
    }

    /** States by texts, each with the moves that led to it. */
    static final class Search {
        int answer = -1;
        int came = 1;
        List<Integer> row = List.of();

        Search(State start, int goal, int a, int b, int c, int n) {
            if (goal == 1 && strange(start, a)) { answer = 0; return; }
            Map<String, State> seen = new HashMap<>();
            List<State> states = new ArrayList<>();
            List<List<Integer>> rows = new ArrayList<>();
            State first = start.copy();
            seen.put(first.key(), first);
            states.add(first);
            rows.add(List.of());
            for (int i = 0; i < states.size(); i++) {
                if (rows.get(i).size() == n) { break; }
                for (int m = 0; m <= 600; m++) {
                    if (!states.get(i).isMove(m)) { continue; }
                    State next = states.get(i).copy();
                    boolean letIn = next.move(m, c);
                    List<Integer> r = new ArrayList<>(rows.get(i));
                    r.add(m);
                    boolean met = goal == 1 ? strange(next, a)
                        : letIn && (m - 100) % 4 == a && next.notes.get((m - 100) / 4).person == b;
                    if (met) { row = r; answer = r.size(); came = states.size(); return; }
                    if (seen.putIfAbsent(next.key(), next) != null) { continue; }
                    if (states.size() == 300) { answer = -4; came = 300; return; }
                    states.add(next);
                    rows.add(r);
                }
            }
            came = states.size();
        }

        static boolean strange(State s, int a) {
            for (Note n : s.notes) {
                if (n.person != a && n.holders.contains(a)) { return true; }
            }
            return false;
        }
    }

    int longest(int note, int house, int right) {
        if (!s.isNote(note) || !s.isHouse(house) || !in(right, 0, 7)) { return -2; }
        State t = s.copy();
        int last = -1;
        for (int k = 0; k <= 1100; k++) {
            if (k > 0) { t.tick(); }
            if (t.verdict(house, note, right) == 0) { last = k; }
        }
        return last;
    }

    private static int bits(Iterable<Integer> set) {
        int b = 0;
        for (int i : set) { b |= 1 << i; }
        return b;
    }

    private static int pick(int what, int otherwise, int... of) { return in(what, 0, of.length - 1) ? of[what] : otherwise; }

    int note(int note, int what) {
        if (!s.isNote(note)) { return -2; }
        Note n = s.notes.get(note);
        return pick(what, -2, n.kind, n.person, n.house, n.rights, n.from, n.till, n.family, n.proof, n.parent,
            n.turned ? 1 : 0, bits(n.holders));
    }

    int letter(int letter, int what) {
        if (!in(letter, 0, s.post.size() - 1)) { return -2; }
        Letter l = s.post.get(letter);
        return pick(what, -2, l.from, l.to, l.kind, l.x, l.y, l.z, l.posted);
    }

    int family(int family, int what) {
        if (!in(family, 0, s.families.size() - 1)) { return -2; }
        return pick(what, -2, s.families.get(family));
    }

    int houseOf(int house, int what) {
        if (!s.isHouse(house)) { return -100; }
        House h = s.houses.get(house);
        return pick(what, -100, h.in ? 1 : 0, h.off, h.once ? 1 : 0, h.dear, h.heard, bits(h.knows), bits(h.letIn),
            s.time + h.off);
    }

    int browser(int browser, int what) {
        return in(browser, 0, 4) ? pick(what, -2, s.proved[browser], s.pair[browser], s.known[browser]) : -2;
    }

    int log(int i, int what) {
        if (!in(i, 0, s.log.size() - 1)) { return -2; }
        Entry e = s.log.get(i);
        return pick(what, -2, e.time, e.house, e.holder, e.note, e.right, e.verdict);
    }

    int where(int person, int house) {
        if (!in(person, 0, 4) || !s.isHouse(house)) { return -2; }
        int at = -1;
        for (Entry e : s.log) {
            if (e.verdict == 0 && e.house == house && s.notes.get(e.note).person == person) { at = e.time; }
        }
        return at;
    }

    int count(int what) {
        int full = 0;
        for (int w : width) { full += w >= 0 ? 1 : 0; }
        return pick(what, -1, s.time, s.houses.size(), s.notes.size(), s.families.size(), s.post.size(), s.log.size(),
            s.shows, s.checks, s.up ? 1 : 0, s.tapped, s.lost, came, full);
    }

    int row(int at, int w, int n) {
        if (!in(at, 0, 3) || !in(w, 0, 3) || n > 60) { return -2; }
        if (n < 0) { return -3; }
        width[at] = w;
        slot[at] = new long[n];
        return 0;
    }

    boolean tear(int at) {
        if (!in(at, 0, 3) || width[at] < 0) { return false; }
        width[at] = -1;
        slot[at] = null;
        return true;
    }

    int write(int at, int i, long v) {
        if (!in(at, 0, 3)) { return -2; }
        if (width[at] < 0) { return -5; }
        if (!in(i, 0, slot[at].length - 1)) { return -6; }
        int cut = 64 - (8 << width[at]);
        slot[at][i] = v << cut >> cut;
        return 0;
    }

    int paste(int at, int i, int to, int k, int n) {
        if (!in(at, 0, 3) || !in(to, 0, 3)) { return -2; }
        if (width[at] < 0 || width[to] < 0) { return -5; }
        if (width[at] != width[to]) { return -7; }
        if (i < 0 || k < 0 || n < 0 || (long) i + n > slot[at].length || (long) k + n > slot[to].length) { return -6; }
        long[] was = slot[at].clone();
        for (int j = 0; j < n; j++) { slot[to][k + j] = was[i + j]; }
        return 0;
    }

    int script(int at) {
        if (!in(at, 0, 3)) { return -2; }
        if (width[at] < 0) { return -5; }
        long[] r = slot[at];
        int[] need = {3, 2, 4, 4, 1, 1, 1, 2};
        int done = 0;
        int p = 0;
        while (p < r.length) {
            long act = r[p++];
            if (act < 0 || act > 7) { why = 4; return done; }
            int[] g = new int[need[(int) act]];
            for (int i = 0; i < g.length; i++) {
                if (p == r.length) { why = 6; return done; }
                if (r[p] < Integer.MIN_VALUE || r[p] > Integer.MAX_VALUE) { why = 4; return done; }
                g[i] = (int) r[p++];
            }
            if (!act((int) act, g)) { why = 3; return done; }
            done++;
        }
        why = 0;
        return done;
    }

    private boolean act(int act, int[] g) {
        switch (act) {
            case 0: return ask(g[0], g[1], g[2]) >= 0;
            case 1: return turn(g[0], g[1]) >= 0;
            case 2: return show(g[0], g[1], g[2], g[3]);
            case 3: return hand(g[0], g[1], g[2], g[3]);
            case 4: return deliver(g[0]) >= 0;
            case 5: return tick(g[0]) >= 0;
            case 6: return prove(g[0]);
            default: return fake(g[0], g[1]);
        }
    }

    int why() { return why; }
}
