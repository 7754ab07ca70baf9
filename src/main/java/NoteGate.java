import java.util.Arrays;

/** One sign-on: a keeper, houses, notes, letters, a thief, and a judge who looks ahead. */
public final class NoteGate {
    public static final int NONE = -1;

    private static final int NOT_SUCH = -2;
    private static final int REFUSED = -3;
    private static final int FULL = -4;
    private static final int HAS_NOTHING = -5;
    private static final int BEYOND = -6;
    private static final int OTHER_WIDTH = -7;
    private static final int NOT_SUCH_HOUSE = -100;

    private static final int BROWSERS = 5;
    private static final int THIEF = 4;
    private static final int HOUSES = 4;
    private static final int FIRST_HOUSE = 5;
    private static final int HOLDERS = 9;
    private static final int KEEPER = 9;

    private static final int RIGHTS = 8;
    private static final int ALL_RIGHTS = 255;
    private static final int ALL_CHECKS = 255;
    private static final int ALL_TAPPED = 511;
    private static final int LATEST_TIME = 30000;
    private static final int MOST_TICKS = 500;
    private static final int MOST_MOVES = 6;

    private static final int SLOTS = 4;
    private static final int WIDTHS = 4;
    private static final int ROW_LENGTH = 60;

    private static final int AT_ITS_END = 0;
    private static final int BY_A_REFUSED_ONE = 3;
    private static final int BY_NO_ACT = 4;
    private static final int WITHIN_ONE = 6;

    /** How many numbers each act of a script needs behind its own. */
    private static final int[] NEEDS = {3, 2, 4, 4, 1, 1, 1, 2};

    private final Setting setting;
    private final Diary diary;
    private final World now;
    private final Judge judging;
    private final Slot[] slots;
    private final int[] given;
    private int scriptEnd;

    public NoteGate() {
        setting = new Setting();
        diary = new Diary();
        now = new World(setting, diary);
        judging = new Judge(setting, now);
        slots = new Slot[SLOTS];
        for (int i = 0; i < SLOTS; i++) {
            slots[i] = new Slot();
        }
        given = new int[4];
        scriptEnd = NONE;
    }

    public boolean terms(int life, int longer, int skew, int each, int patience, int late, int fresh) {
        boolean spans = within(life, 1, 1000) && within(longer, 1, 10000) && within(skew, 0, 20);
        boolean waits = within(each, 1, 100) && within(patience, 0, 1000) && within(late, 1, 100);
        if (!spans || !waits || !within(fresh, 0, 1000)) {
            return false;
        }
        setting.life = life;
        setting.longer = longer;
        setting.skew = skew;
        setting.each = each;
        setting.patience = patience;
        setting.late = late;
        setting.fresh = fresh;
        return true;
    }

    public int checks(int set) {
        if (!within(set, 0, ALL_CHECKS)) {
            return NOT_SUCH;
        }
        int before = setting.checksOn;
        setting.checksOn = set;
        return before;
    }

    public int house(int off, boolean once, int dear) {
        if (!within(off, -20, 20) || !within(dear, 0, ALL_RIGHTS)) {
            return NOT_SUCH;
        }
        int h = setting.houses;
        if (h >= HOUSES) {
            return REFUSED;
        }
        setting.open(h, off, once, dear);
        now.openHouse(h);
        return h;
    }

    public boolean throwOut(int house) {
        if (!setting.isIn(house)) {
            return false;
        }
        setting.housesIn &= ~(1 << house);
        return true;
    }

    public boolean keeper(boolean up) {
        boolean before = setting.up;
        setting.up = up;
        return before;
    }

    public int tap(int set) {
        if (!within(set, 0, ALL_TAPPED)) {
            return NOT_SUCH;
        }
        int before = setting.tapped;
        setting.tapped = set;
        return before;
    }

    public boolean prove(int browser) {
        if (!isBrowser(browser) || !setting.up) {
            return false;
        }
        setting.proved[browser] = now.time();
        return true;
    }

    public int leave(int browser) {
        if (!isBrowser(browser)) {
            return NOT_SUCH;
        }
        if (!setting.up) {
            return REFUSED;
        }
        setting.proved[browser] = NONE;
        return now.endFamiliesOf(browser);
    }

    public boolean end(int family) {
        if (!setting.up || !now.isFamily(family) || now.isEnded(family)) {
            return false;
        }
        now.endFamily(family);
        return true;
    }

    public int ask(int browser, int house, int rights) {
        if (!isBrowser(browser) || !setting.isHouse(house) || !within(rights, 1, ALL_RIGHTS)) {
            return NOT_SUCH;
        }
        int pair = now.givePair(browser);
        now.post(browser, KEEPER, World.ASK, house, rights, pair);
        return pair;
    }

    public int turn(int browser, int note) {
        if (!isBrowser(browser) || !now.isNote(note)) {
            return NOT_SUCH;
        }
        if (!now.has(browser, note) || now.noteWord(note, World.KIND) != World.REFRESH) {
            return REFUSED;
        }
        int pair = now.givePair(browser);
        now.post(browser, KEEPER, World.TURN, note, NONE, pair);
        return pair;
    }

    public boolean show(int holder, int house, int note, int right) {
        if (!setting.isHouse(house) || !isRight(right) || !now.has(holder, note)) {
            return false;
        }
        now.post(holder, FIRST_HOUSE + house, World.SHOW, note, right, 0);
        return true;
    }

    public boolean hand(int house, int note, int helper, int rights) {
        if (!setting.isHouse(house) || !setting.isHouse(helper) || house == helper) {
            return false;
        }
        int holder = FIRST_HOUSE + house;
        if (!within(rights, 1, ALL_RIGHTS) || !now.has(holder, note)) {
            return false;
        }
        now.post(holder, KEEPER, World.HAND, note, helper, rights);
        return true;
    }

    public boolean fake(int browser, int note) {
        if (!within(browser, 0, THIEF - 1) || !now.has(THIEF, note)) {
            return false;
        }
        now.post(THIEF, browser, World.GIVE, note, NONE, now.knownPair(browser));
        return true;
    }

    public int deliver(int letter) {
        return now.come(letter);
    }

    public boolean copy(int letter) {
        return now.postAgain(letter);
    }

    public boolean lose(int letter) {
        if (!now.isLetter(letter)) {
            return false;
        }
        now.takeOut(letter);
        return true;
    }

    public int tick(int n) {
        if (!within(n, 1, MOST_TICKS)) {
            return NOT_SUCH;
        }
        if (now.time() + n > LATEST_TIME) {
            return REFUSED;
        }
        for (int i = 0; i < n; i++) {
            now.passTick();
        }
        return now.time();
    }

    public int judge(int goal, int a, int b, int c, int n) {
        if (!isQuestion(goal, a, b, c, n)) {
            return NOT_SUCH;
        }
        judging.aim(goal, a, b, c);
        int moves = judging.search(n);
        judging.tell(moves);
        return moves;
    }

    public int found(int i) {
        return judging.toldMove(i);
    }

    public int stops(int goal, int a, int b, int c, int n) {
        if (!isQuestion(goal, a, b, c, n)) {
            return NOT_SUCH;
        }
        judging.aim(goal, a, b, c);
        int asSet = setting.checksOn;
        int stopping = 0;
        boolean full = false;
        for (int check = 0; check < Setting.CHECKS && !full; check++) {
            if ((asSet >> check & 1) == 0) {
                setting.checksOn = asSet | 1 << check;
                int moves = judging.search(n);
                stopping |= moves == NONE ? 1 << check : 0;
                full = moves == FULL;
            }
        }
        setting.checksOn = asSet;
        return full ? FULL : stopping;
    }

    public int longest(int note, int house, int right) {
        if (!now.isNote(note) || !setting.isHouse(house) || !isRight(right)) {
            return NOT_SUCH;
        }
        return judging.lastLetIn(note, house, right);
    }

    public int note(int note, int what) {
        if (!now.isNote(note) || !within(what, 0, World.NOTE_WORDS - 1)) {
            return NOT_SUCH;
        }
        return now.noteWord(note, what);
    }

    public int letter(int letter, int what) {
        if (!now.isLetter(letter) || !within(what, 0, World.LETTER_WORDS - 1)) {
            return NOT_SUCH;
        }
        return now.letterWord(letter, what);
    }

    public int family(int family, int what) {
        if (!now.isFamily(family) || !within(what, 0, World.FAMILY_WORDS - 1)) {
            return NOT_SUCH;
        }
        return now.familyWord(family, what);
    }

    public int houseOf(int house, int what) {
        if (!setting.isHouse(house)) {
            return NOT_SUCH_HOUSE;
        }
        switch (what) {
            case 0: return setting.isIn(house) ? 1 : 0;
            case 1: return setting.off[house];
            case 2: return setting.isOnce(house) ? 1 : 0;
            case 3: return setting.dear[house];
            case 4: return now.houseWord(house, World.HEARD);
            case 5: return now.houseWord(house, World.KNOWN_ENDED);
            case 6: return now.houseWord(house, World.LET_IN);
            case 7: return now.time() + setting.off[house];
            default: return NOT_SUCH_HOUSE;
        }
    }

    public int browser(int browser, int what) {
        if (!isBrowser(browser)) {
            return NOT_SUCH;
        }
        switch (what) {
            case 0: return setting.proved[browser];
            case 1: return now.pairOf(browser);
            case 2: return now.knownPair(browser);
            default: return NOT_SUCH;
        }
    }

    public int log(int i, int what) {
        if (!within(i, 0, diary.kept - 1) || !within(what, 0, Diary.ENTRY_WORDS - 1)) {
            return NOT_SUCH;
        }
        return diary.word(i, what);
    }

    public int where(int person, int house) {
        if (!isBrowser(person) || !setting.isHouse(house)) {
            return NOT_SUCH;
        }
        for (int i = diary.kept - 1; i >= 0; i--) {
            boolean letIn = diary.word(i, Diary.VERDICT) == 0 && diary.word(i, Diary.HOUSE) == house;
            if (letIn && now.noteWord(diary.word(i, Diary.NOTE), World.PERSON) == person) {
                return diary.word(i, Diary.TIME);
            }
        }
        return NONE;
    }

    public int count(int what) {
        switch (what) {
            case 0: return now.time();
            case 1: return setting.houses;
            case 2: return now.notes();
            case 3: return now.families();
            case 4: return now.letters();
            case 5: return diary.kept;
            case 6: return diary.shows;
            case 7: return setting.checksOn;
            case 8: return setting.up ? 1 : 0;
            case 9: return setting.tapped;
            case 10: return diary.lost;
            case 11: return judging.toldStates;
            case 12: return fullSlots();
            default: return NONE;
        }
    }

    public int row(int slot, int width, int n) {
        if (!isSlot(slot) || !within(width, 0, WIDTHS - 1) || n > ROW_LENGTH) {
            return NOT_SUCH;
        }
        if (n < 0) {
            return REFUSED;
        }
        slots[slot].lay(width, n);
        return 0;
    }

    public boolean tear(int slot) {
        if (!isSlot(slot) || !slots[slot].isLaid()) {
            return false;
        }
        slots[slot].width = NONE;
        return true;
    }

    public int write(int slot, int i, long v) {
        if (!isSlot(slot)) {
            return NOT_SUCH;
        }
        if (!slots[slot].isLaid()) {
            return HAS_NOTHING;
        }
        return slots[slot].put(i, v) ? 0 : BEYOND;
    }

    public int paste(int slot, int i, int to, int k, int n) {
        if (!isSlot(slot) || !isSlot(to)) {
            return NOT_SUCH;
        }
        Slot source = slots[slot];
        Slot target = slots[to];
        if (!source.isLaid() || !target.isLaid()) {
            return HAS_NOTHING;
        }
        if (source.width != target.width) {
            return OTHER_WIDTH;
        }
        if (!source.holds(i, n) || !target.holds(k, n)) {
            return BEYOND;
        }
        System.arraycopy(source.numbers, i, target.numbers, k, n);
        return 0;
    }

    public int script(int slot) {
        if (!isSlot(slot)) {
            return NOT_SUCH;
        }
        Slot acts = slots[slot];
        if (!acts.isLaid()) {
            return HAS_NOTHING;
        }
        scriptEnd = AT_ITS_END;
        int done = 0;
        int at = 0;
        while (at < acts.size && done < ROW_LENGTH) {
            scriptEnd = readAct(acts, at);
            if (scriptEnd != AT_ITS_END) {
                return done;
            }
            int act = acts.intAt(at);
            if (!isDone(act)) {
                scriptEnd = BY_A_REFUSED_ONE;
                return done;
            }
            done++;
            at += 1 + needs(act);
        }
        return done;
    }

    public int why() {
        return scriptEnd;
    }

    private static boolean within(int v, int least, int most) {
        return v >= least && v <= most;
    }

    private static boolean isBrowser(int b) {
        return b >= 0 && b < BROWSERS;
    }

    private static boolean isRight(int right) {
        return right >= 0 && right < RIGHTS;
    }

    /** The last test always holds; it stands here so that no slot is used unlooked at. */
    private boolean isSlot(int slot) {
        return slot >= 0 && slot < SLOTS && slots[slot] != null;
    }

    private boolean isQuestion(int goal, int a, int b, int c, int n) {
        if (!isRight(c) || !within(n, 0, MOST_MOVES)) {
            return false;
        }
        if (goal == Judge.THIEF_LET_IN) {
            return setting.isHouse(a) && within(b, 0, THIEF - 1);
        }
        return goal == Judge.STRANGE_NOTE && within(a, 0, THIEF - 1) && b == 0;
    }

    private int fullSlots() {
        int full = 0;
        for (int i = 0; i < SLOTS; i++) {
            if (isSlot(i) && slots[i].isLaid()) {
                full++;
            }
        }
        return full;
    }

    private static int needs(int act) {
        return act >= 0 && act < NEEDS.length ? NEEDS[act] : 0;
    }

    /** Reads the act at a place and its numbers one by one; tells how the script ends here, if it does. */
    private int readAct(Slot acts, int at) {
        if (!acts.isInt(at) || !within(acts.intAt(at), 0, NEEDS.length - 1)) {
            return BY_NO_ACT;
        }
        int more = needs(acts.intAt(at));
        for (int i = 0; i < more && i < given.length; i++) {
            int place = at + 1 + i;
            if (place >= acts.size) {
                return WITHIN_ONE;
            }
            if (!acts.isInt(place)) {
                return BY_NO_ACT;
            }
            given[i] = acts.intAt(place);
        }
        return AT_ITS_END;
    }

    private boolean isDone(int act) {
        switch (act) {
            case 0: return ask(given[0], given[1], given[2]) >= 0;
            case 1: return turn(given[0], given[1]) >= 0;
            case 2: return show(given[0], given[1], given[2], given[3]);
            case 3: return hand(given[0], given[1], given[2], given[3]);
            case 4: return deliver(given[0]) >= 0;
            case 5: return tick(given[0]) >= 0;
            case 6: return prove(given[0]);
            case 7: return fake(given[0], given[1]);
            default: return false;
        }
    }

    /** What no move of the judge changes, kept apart so that his worlds can share it. */
    private static final class Setting {
        static final int FOR_WHOM = 0;
        static final int SPAN = 1;
        static final int ONLY_ONCE = 2;
        static final int WHAT_IS_ENDED = 3;
        static final int SAME_PAIR = 4;
        static final int TURNED_TWICE = 5;
        static final int NARROWER = 6;
        static final int FRESH_PROOF = 7;
        static final int CHECKS = 8;

        int life = 20;
        int longer = 200;
        int skew = 2;
        int each = 10;
        int patience = 0;
        int late = 5;
        int fresh = 10;
        int checksOn = ALL_CHECKS;
        int tapped = 0;
        boolean up = true;
        int houses = 0;
        int housesIn = 0;
        int housesOnce = 0;
        int pairs = 0;
        final int[] off = new int[HOUSES];
        final int[] dear = new int[HOUSES];
        final int[] proved = new int[BROWSERS];

        Setting() {
            Arrays.fill(proved, NONE);
        }

        boolean on(int check) {
            return (checksOn >> check & 1) == 1;
        }

        boolean isHouse(int h) {
            return h >= 0 && h < houses && h < HOUSES;
        }

        boolean isIn(int h) {
            return h >= 0 && h < HOUSES && (housesIn >> h & 1) == 1;
        }

        boolean isOnce(int h) {
            return h >= 0 && h < HOUSES && (housesOnce >> h & 1) == 1;
        }

        void open(int h, int offset, boolean once, int dearRights) {
            if (h < 0 || h >= HOUSES) {
                return;
            }
            off[h] = offset;
            dear[h] = dearRights;
            housesIn |= 1 << h;
            housesOnce |= once ? 1 << h : 0;
            houses = h + 1;
        }
    }

    /** The log, and what was lost: what the judge's worlds have none of. */
    private static final class Diary {
        static final int ENTRIES = 60;
        static final int ENTRY_WORDS = 6;
        static final int TIME = 0;
        static final int HOUSE = 1;
        static final int HOLDER = 2;
        static final int NOTE = 3;
        static final int RIGHT = 4;
        static final int VERDICT = 5;

        final int[] words = new int[ENTRIES * ENTRY_WORDS];
        int kept = 0;
        int shows = 0;
        int lost = 0;

        /** Entries stand in a ring: the latest takes the place of the one sixty before it. */
        void add(int time, int house, int holder, int note, int right, int verdict) {
            int at = Math.floorMod(shows, ENTRIES) * ENTRY_WORDS;
            words[at + TIME] = time;
            words[at + HOUSE] = house;
            words[at + HOLDER] = holder;
            words[at + NOTE] = note;
            words[at + RIGHT] = right;
            words[at + VERDICT] = verdict;
            shows++;
            if (kept < ENTRIES) {
                kept++;
            }
        }

        int word(int i, int what) {
            if (i < 0 || i >= kept || what < 0 || what >= ENTRY_WORDS) {
                return NOT_SUCH;
            }
            return words[Math.floorMod(shows - kept + i, ENTRIES) * ENTRY_WORDS + what];
        }
    }

    /**
     * One state, all of it in one row of words, so that the judge can copy and compare states at once.
     * Notes stand last: what is behind the last of them need not be copied.
     */
    private static final class World {
        static final int MOST_NOTES = 32;
        static final int MOST_FAMILIES = 16;
        static final int MOST_LETTERS = 12;

        static final int TIME = 0;
        static final int NOTE_COUNT = 1;
        static final int FAMILY_COUNT = 2;
        static final int LETTER_COUNT = 3;

        static final int HOUSE_AT = 4;
        static final int HOUSE_WORDS = 3;
        static final int HEARD = 0;
        static final int KNOWN_ENDED = 1;
        static final int LET_IN = 2;

        static final int BROWSER_AT = HOUSE_AT + HOUSES * HOUSE_WORDS;
        static final int BROWSER_WORDS = 2;
        static final int PAIR = 0;
        static final int KNOWN_PAIR = 1;

        static final int FAMILY_AT = BROWSER_AT + BROWSERS * BROWSER_WORDS;
        static final int FAMILY_WORDS = 2;
        static final int FAMILY_PERSON = 0;
        static final int ENDED = 1;

        static final int LETTER_AT = FAMILY_AT + MOST_FAMILIES * FAMILY_WORDS;
        static final int LETTER_WORDS = 7;
        static final int POSTED = 6;

        static final int NOTE_AT = LETTER_AT + MOST_LETTERS * LETTER_WORDS;
        static final int NOTE_WORDS = 11;
        static final int KIND = 0;
        static final int PERSON = 1;
        static final int HOUSE = 2;
        static final int NOTE_RIGHTS = 3;
        static final int FROM = 4;
        static final int TILL = 5;
        static final int FAMILY = 6;
        static final int PROOF = 7;
        static final int PARENT = 8;
        static final int TURNED = 9;
        static final int HAVE = 10;

        static final int WORDS = NOTE_AT + MOST_NOTES * NOTE_WORDS;

        static final int PLAIN = 0;
        static final int REFRESH = 1;
        static final int HANDED = 2;

        static final int ASK = 0;
        static final int GIVE = 1;
        static final int SHOW = 2;
        static final int TURN = 3;
        static final int HAND = 4;
        static final int OVER = 5;

        static final int NOTHING_CAME = 0;
        static final int FAMILY_ENDS = 1;
        static final int NOTES_CAME = 2;

        final int[] w = new int[WORDS];
        final Setting setting;
        final Diary diary;

        World(Setting setting, Diary diary) {
            this.setting = setting;
            this.diary = diary;
        }

        int time() {
            return w[TIME];
        }

        int notes() {
            return w[NOTE_COUNT];
        }

        int families() {
            return w[FAMILY_COUNT];
        }

        int letters() {
            return w[LETTER_COUNT];
        }

        boolean isNote(int x) {
            return x >= 0 && x < w[NOTE_COUNT] && x < MOST_NOTES;
        }

        boolean isFamily(int f) {
            return f >= 0 && f < w[FAMILY_COUNT] && f < MOST_FAMILIES;
        }

        boolean isLetter(int i) {
            return i >= 0 && i < w[LETTER_COUNT] && i < MOST_LETTERS;
        }

        int noteWord(int x, int what) {
            boolean there = isNote(x) && what >= 0 && what < NOTE_WORDS;
            return there ? w[NOTE_AT + x * NOTE_WORDS + what] : NONE;
        }

        int familyWord(int f, int what) {
            boolean there = isFamily(f) && what >= 0 && what < FAMILY_WORDS;
            return there ? w[FAMILY_AT + f * FAMILY_WORDS + what] : NONE;
        }

        int letterWord(int i, int what) {
            boolean there = isLetter(i) && what >= 0 && what < LETTER_WORDS;
            return there ? w[LETTER_AT + i * LETTER_WORDS + what] : NONE;
        }

        int houseWord(int h, int what) {
            boolean there = h >= 0 && h < HOUSES && what >= 0 && what < HOUSE_WORDS;
            return there ? w[HOUSE_AT + h * HOUSE_WORDS + what] : NONE;
        }

        int pairOf(int b) {
            return isBrowser(b) ? w[BROWSER_AT + b * BROWSER_WORDS + PAIR] : 0;
        }

        int knownPair(int b) {
            return isBrowser(b) ? w[BROWSER_AT + b * BROWSER_WORDS + KNOWN_PAIR] : 0;
        }

        boolean isEnded(int f) {
            return familyWord(f, ENDED) != NONE;
        }

        boolean has(int holder, int x) {
            boolean there = holder >= 0 && holder < HOLDERS && isNote(x);
            return there && (w[NOTE_AT + x * NOTE_WORDS + HAVE] >> holder & 1) == 1;
        }

        void letHave(int holder, int x) {
            if (holder >= 0 && holder < HOLDERS && isNote(x)) {
                w[NOTE_AT + x * NOTE_WORDS + HAVE] |= 1 << holder;
            }
        }

        void openHouse(int h) {
            if (h >= 0 && h < HOUSES) {
                w[HOUSE_AT + h * HOUSE_WORDS + HEARD] = w[TIME];
            }
        }

        int givePair(int b) {
            setting.pairs++;
            if (isBrowser(b)) {
                w[BROWSER_AT + b * BROWSER_WORDS + PAIR] = setting.pairs;
            }
            return setting.pairs;
        }

        /** Posts a letter behind all, and lets the thief read it: both in one, as this stands deepest of all calls. */
        void post(int from, int to, int kind, int x, int y, int z) {
            int n = w[LETTER_COUNT];
            if (n < 0 || n >= MOST_LETTERS) {
                if (diary != null) {
                    diary.lost++;
                }
                return;
            }
            int at = LETTER_AT + n * LETTER_WORDS;
            w[at] = from;
            w[at + 1] = to;
            w[at + 2] = kind;
            w[at + 3] = x;
            w[at + 4] = y;
            w[at + 5] = z;
            w[at + POSTED] = w[TIME];
            w[LETTER_COUNT] = n + 1;
            boolean read = ((setting.tapped >> from | setting.tapped >> to) & 1) == 1;
            if (!read || kind == OVER) {
                return;
            }
            int there = w[NOTE_COUNT];
            if (kind != ASK && x >= 0 && x < there && x < MOST_NOTES) {
                w[NOTE_AT + x * NOTE_WORDS + HAVE] |= 1 << THIEF;
            }
            if (kind == GIVE && y >= 0 && y < there && y < MOST_NOTES) {
                w[NOTE_AT + y * NOTE_WORDS + HAVE] |= 1 << THIEF;
            }
            boolean tellsPair = kind == ASK || kind == TURN || kind == GIVE;
            int whose = kind == GIVE ? to : from;
            if (tellsPair && whose >= 0 && whose < THIEF) {
                w[BROWSER_AT + whose * BROWSER_WORDS + KNOWN_PAIR] = z;
            }
        }

        boolean postAgain(int i) {
            if (!isLetter(i) || w[LETTER_COUNT] >= MOST_LETTERS) {
                return false;
            }
            int at = LETTER_AT + i * LETTER_WORDS;
            post(w[at], w[at + 1], w[at + 2], w[at + 3], w[at + 4], w[at + 5]);
            return true;
        }

        void takeOut(int i) {
            if (!isLetter(i)) {
                return;
            }
            int at = LETTER_AT + i * LETTER_WORDS;
            int behind = (w[LETTER_COUNT] - 1 - i) * LETTER_WORDS;
            System.arraycopy(w, at + LETTER_WORDS, w, at, behind);
            w[LETTER_COUNT]--;
        }

        /** A letter comes: the verdict of a show, of others whether something came of it. */
        int come(int i) {
            if (!isLetter(i)) {
                return NONE;
            }
            int at = LETTER_AT + i * LETTER_WORDS;
            int from = w[at];
            int to = w[at + 1];
            int kind = w[at + 2];
            int x = w[at + 3];
            int y = w[at + 4];
            int z = w[at + 5];
            takeOut(i);
            switch (kind) {
                case ASK: return askComes(from, x, y, z);
                case GIVE: return giveComes(to, x, y, z);
                case SHOW: return showComes(from, to - FIRST_HOUSE, x, y);
                case TURN: return turnComes(from, x, z);
                case HAND: return handComes(from, x, y, z);
                default: return overComes(to - FIRST_HOUSE, x);
            }
        }

        private int askComes(int person, int h, int rights, int z) {
            boolean room = w[NOTE_COUNT] + 2 <= MOST_NOTES && w[FAMILY_COUNT] < MOST_FAMILIES;
            if (!setting.up || !isBrowser(person) || !setting.isIn(h) || !room) {
                return 0;
            }
            int proof = setting.proved[person];
            if (proof == NONE) {
                return 0;
            }
            int f = beginFamily(person);
            int x = w[NOTE_COUNT];
            int at = NOTE_AT + x * NOTE_WORDS;
            w[at + PERSON] = person;
            w[at + HOUSE] = h;
            w[at + NOTE_RIGHTS] = rights;
            w[at + FAMILY] = f;
            w[at + PROOF] = proof;
            addNoteLike(x, PLAIN, w[TIME] + setting.life);
            addNoteLike(x, REFRESH, w[TIME] + setting.longer);
            post(KEEPER, person, GIVE, x, x + 1, z);
            return 1;
        }

        private int beginFamily(int person) {
            int f = w[FAMILY_COUNT];
            if (f < 0 || f >= MOST_FAMILIES) {
                return NONE;
            }
            w[FAMILY_AT + f * FAMILY_WORDS + FAMILY_PERSON] = person;
            w[FAMILY_AT + f * FAMILY_WORDS + ENDED] = NONE;
            w[FAMILY_COUNT] = f + 1;
            return f;
        }

        /** A note more, with the person, house, rights, family and proof that stand at x. */
        private int addNoteLike(int x, int kind, int till) {
            int n = w[NOTE_COUNT];
            if (n < 0 || n >= MOST_NOTES || x < 0 || x >= MOST_NOTES) {
                return NONE;
            }
            int at = NOTE_AT + n * NOTE_WORDS;
            int like = NOTE_AT + x * NOTE_WORDS;
            w[at + KIND] = kind;
            w[at + PERSON] = w[like + PERSON];
            w[at + HOUSE] = w[like + HOUSE];
            w[at + NOTE_RIGHTS] = w[like + NOTE_RIGHTS];
            w[at + FROM] = w[TIME];
            w[at + TILL] = till;
            w[at + FAMILY] = w[like + FAMILY];
            w[at + PROOF] = w[like + PROOF];
            w[at + PARENT] = NONE;
            w[at + TURNED] = 0;
            w[at + HAVE] = 0;
            w[NOTE_COUNT] = n + 1;
            return n;
        }

        private int turnComes(int from, int x, int z) {
            int came = renew(x);
            if (came == NOTES_CAME) {
                post(KEEPER, from, GIVE, w[NOTE_COUNT] - 2, w[NOTE_COUNT] - 1, z);
            }
            if (came == FAMILY_ENDS) {
                endFamily(noteWord(x, FAMILY));
            }
            return came == NOTHING_CAME ? 0 : 1;
        }

        /** The thief turns a refresh at once: what would be given he has, and nothing is posted to him. */
        boolean thiefTurns(int x) {
            int came = renew(x);
            if (came == NOTES_CAME) {
                letHave(THIEF, w[NOTE_COUNT] - 2);
                letHave(THIEF, w[NOTE_COUNT] - 1);
            }
            if (came == FAMILY_ENDS) {
                endFamily(noteWord(x, FAMILY));
            }
            return came != NOTHING_CAME;
        }

        /** What the keeper does about a turned refresh; ending the family is left to who called. */
        private int renew(int x) {
            if (!isGoodForKeeper(x)) {
                return NOTHING_CAME;
            }
            int at = NOTE_AT + x * NOTE_WORDS;
            if (!setting.isIn(w[at + HOUSE])) {
                return NOTHING_CAME;
            }
            if (w[at + TURNED] == 1 && setting.on(Setting.TURNED_TWICE)) {
                return FAMILY_ENDS;
            }
            if (w[NOTE_COUNT] + 2 > MOST_NOTES) {
                return NOTHING_CAME;
            }
            w[at + TURNED] = 1;
            addNoteLike(x, PLAIN, w[TIME] + setting.life);
            addNoteLike(x, REFRESH, w[at + TILL]);
            return NOTES_CAME;
        }

        private boolean isGoodForKeeper(int x) {
            if (!setting.up || x < 0 || x >= w[NOTE_COUNT] || x >= MOST_NOTES) {
                return false;
            }
            int at = NOTE_AT + x * NOTE_WORDS;
            int f = w[at + FAMILY];
            boolean alive = f >= 0 && f < MOST_FAMILIES && w[FAMILY_AT + f * FAMILY_WORDS + ENDED] == NONE;
            return alive && w[TIME] < w[at + TILL];
        }

        private int handComes(int from, int x, int helper, int asked) {
            if (!isGoodForKeeper(x) || !setting.isIn(helper) || w[NOTE_COUNT] >= MOST_NOTES) {
                return 0;
            }
            int rights = asked;
            int till = w[TIME] + setting.life;
            if (setting.on(Setting.NARROWER)) {
                rights &= noteWord(x, NOTE_RIGHTS);
                till = Math.min(till, noteWord(x, TILL));
            }
            if (rights == 0) {
                return 0;
            }
            int n = addNoteLike(x, HANDED, till);
            if (n == NONE) {
                return 0;
            }
            int at = NOTE_AT + n * NOTE_WORDS;
            w[at + HOUSE] = helper;
            w[at + NOTE_RIGHTS] = rights;
            w[at + PARENT] = x;
            post(KEEPER, from, GIVE, n, NONE, 0);
            return 1;
        }

        int giveComes(int to, int x, int y, int z) {
            if (isBrowser(to)) {
                if (!takes(to, z)) {
                    return 0;
                }
                letHave(to, y);
                w[BROWSER_AT + to * BROWSER_WORDS + PAIR] = 0;
            }
            letHave(to, x);
            return 1;
        }

        boolean takes(int b, int z) {
            if (b < 0 || b >= BROWSERS) {
                return false;
            }
            int pair = w[BROWSER_AT + b * BROWSER_WORDS + PAIR];
            return !setting.on(Setting.SAME_PAIR) || pair != 0 && pair == z;
        }

        private int overComes(int h, int f) {
            if (h >= 0 && h < HOUSES && isFamily(f)) {
                w[HOUSE_AT + h * HOUSE_WORDS + KNOWN_ENDED] |= 1 << f;
            }
            return 1;
        }

        private int showComes(int holder, int h, int x, int right) {
            int said = verdict(h, x, right);
            if (said == 0) {
                letIn(h, x);
            }
            if (diary != null) {
                diary.add(w[TIME], h, holder, x, right, said);
            }
            return said;
        }

        int verdict(int h, int x, int right) {
            if (!setting.isIn(h) || !isNote(x)) {
                return 1;
            }
            int at = NOTE_AT + x * NOTE_WORDS;
            int house = HOUSE_AT + h * HOUSE_WORDS;
            int clock = w[TIME] + setting.off[h];
            if (w[at + KIND] == REFRESH) {
                return 2;
            }
            if (w[at + HOUSE] != h && setting.on(Setting.FOR_WHOM)) {
                return 3;
            }
            if (clock < w[at + FROM] - setting.skew && setting.on(Setting.SPAN)) {
                return 4;
            }
            if (clock >= w[at + TILL] + setting.skew && setting.on(Setting.SPAN)) {
                return 5;
            }
            if ((w[house + KNOWN_ENDED] >> w[at + FAMILY] & 1) == 1 && setting.on(Setting.WHAT_IS_ENDED)) {
                return 6;
            }
            boolean unheard = setting.patience > 0 && w[TIME] - w[house + HEARD] > setting.patience;
            if (unheard && setting.on(Setting.WHAT_IS_ENDED)) {
                return 7;
            }
            boolean again = setting.isOnce(h) && (w[house + LET_IN] >> x & 1) == 1;
            if (again && setting.on(Setting.ONLY_ONCE)) {
                return 8;
            }
            if ((w[at + NOTE_RIGHTS] >> right & 1) == 0) {
                return 9;
            }
            boolean stale = clock - w[at + PROOF] > setting.fresh + setting.skew;
            boolean dear = (setting.dear[h] >> right & 1) == 1;
            return stale && dear && setting.on(Setting.FRESH_PROOF) ? 10 : 0;
        }

        void letIn(int h, int x) {
            if (h >= 0 && h < HOUSES && isNote(x)) {
                w[HOUSE_AT + h * HOUSE_WORDS + LET_IN] |= 1 << x;
                w[NOTE_AT + x * NOTE_WORDS + HAVE] |= 1 << FIRST_HOUSE + h;
            }
        }

        int endFamiliesOf(int person) {
            int ended = 0;
            for (int f = 0; f < w[FAMILY_COUNT]; f++) {
                if (familyWord(f, FAMILY_PERSON) == person && !isEnded(f)) {
                    endFamily(f);
                    ended++;
                }
            }
            return ended;
        }

        void endFamily(int f) {
            if (!isFamily(f)) {
                return;
            }
            w[FAMILY_AT + f * FAMILY_WORDS + ENDED] = w[TIME];
            int to = 0;
            for (int x = 0; x < w[NOTE_COUNT] && x < MOST_NOTES; x++) {
                int at = NOTE_AT + x * NOTE_WORDS;
                if (w[at + FAMILY] == f && w[at + KIND] != REFRESH) {
                    to |= 1 << w[at + HOUSE];
                }
            }
            for (int h = 0; h < HOUSES; h++) {
                if ((to >> h & 1) == 1 && setting.isIn(h)) {
                    post(KEEPER, FIRST_HOUSE + h, OVER, f, NONE, 0);
                }
            }
        }

        /** The first letter is always the one that was posted first, and none that is posted now is late. */
        void passTick() {
            w[TIME]++;
            if (setting.up && setting.each > 0 && w[TIME] % setting.each == 0) {
                hearOfEnded();
            }
            for (int i = 0; i < MOST_LETTERS; i++) {
                if (w[LETTER_COUNT] == 0 || w[TIME] - w[LETTER_AT + POSTED] < setting.late) {
                    return;
                }
                come(0);
            }
        }

        private void hearOfEnded() {
            int ended = 0;
            for (int f = 0; f < w[FAMILY_COUNT]; f++) {
                ended |= isEnded(f) ? 1 << f : 0;
            }
            for (int h = 0; h < HOUSES; h++) {
                if (setting.isIn(h)) {
                    w[HOUSE_AT + h * HOUSE_WORDS + KNOWN_ENDED] |= ended;
                    w[HOUSE_AT + h * HOUSE_WORDS + HEARD] = w[TIME];
                }
            }
        }

        void become(World other) {
            int used = NOTE_AT + other.w[NOTE_COUNT] * NOTE_WORDS;
            if (used >= 0 && used <= WORDS) {
                System.arraycopy(other.w, 0, w, 0, used);
            }
        }

        /** A number that alike states share; unlike ones may, too. Of the many notes it takes only what changes. */
        int mark() {
            int h = mixed(1, 0, FAMILY_AT + w[FAMILY_COUNT] * FAMILY_WORDS);
            h = mixed(h, LETTER_AT, LETTER_AT + w[LETTER_COUNT] * LETTER_WORDS);
            for (int x = 0; x < w[NOTE_COUNT] && x < MOST_NOTES; x++) {
                int at = NOTE_AT + x * NOTE_WORDS;
                h = h * 31 + (w[at + HAVE] << 1 | w[at + TURNED]);
            }
            return h ^ h >>> 15;
        }

        private int mixed(int start, int from, int to) {
            int h = start;
            for (int i = from; i < to && i < WORDS; i++) {
                h = h * 31 + w[i];
            }
            return h;
        }

        /** The counts stand within the first part, so that the other parts are of one length if it is alike. */
        boolean isLike(World other) {
            return sameWords(other, 0, FAMILY_AT + w[FAMILY_COUNT] * FAMILY_WORDS)
                && sameWords(other, LETTER_AT, LETTER_AT + w[LETTER_COUNT] * LETTER_WORDS)
                && sameWords(other, NOTE_AT, NOTE_AT + w[NOTE_COUNT] * NOTE_WORDS);
        }

        private boolean sameWords(World other, int from, int to) {
            for (int i = from; i < to && i < WORDS; i++) {
                if (w[i] != other.w[i]) {
                    return false;
                }
            }
            return true;
        }
    }

    /** Looks ahead from the state as it is; his worlds are made when first needed and used again. */
    private static final class Judge {
        static final int THIEF_LET_IN = 0;
        static final int STRANGE_NOTE = 1;

        static final int SHOW_MOVE = 100;
        static final int TURN_MOVE = 300;
        static final int GIVE_MOVE = 400;
        static final int TICK_MOVE = 600;

        static final int MOST_STATES = 300;
        static final int CHAINS = 256;
        static final int FARTHEST_TICK = 1100;

        static final int GOES_ON = 0;
        static final int GOAL_MET = 1;
        static final int TOO_MANY = 2;

        final Setting setting;
        final World now;
        final World trial;
        final World[] seen = new World[MOST_STATES];
        final int[] before = new int[MOST_STATES];
        final int[] moveTo = new int[MOST_STATES];
        final int[] nextInChain = new int[MOST_STATES];
        final int[] chains = new int[CHAINS];
        final int[] toldRow = new int[MOST_MOVES];
        int states = 0;
        int goal = 0;
        int a = 0;
        int b = 0;
        int c = 0;
        int lastState = 0;
        int lastMove = 0;
        int toldMoves = 0;
        int toldStates = 0;

        Judge(Setting setting, World now) {
            this.setting = setting;
            this.now = now;
            this.trial = new World(setting, null);
        }

        void aim(int newGoal, int newA, int newB, int newC) {
            goal = newGoal;
            a = newA;
            b = newB;
            c = newC;
        }

        /** By how many moves the goal is met first, NONE or FULL. */
        int search(int most) {
            Arrays.fill(chains, NONE);
            states = 0;
            trial.become(now);
            if (isStrangeNoteTaken()) {
                states = 1;
                return 0;
            }
            keepIfNew(0, NONE);
            int first = 0;
            for (int depth = 1; depth <= most; depth++) {
                int end = states;
                for (int s = first; s < end; s++) {
                    int came = expand(s);
                    if (came == GOAL_MET) {
                        return depth;
                    }
                    if (came == TOO_MANY) {
                        return FULL;
                    }
                }
                first = end;
            }
            return NONE;
        }

        /** Keeps what the latest search told, apart from what a search for stoppers leaves. */
        void tell(int moves) {
            toldStates = states;
            toldMoves = moves > 0 && moves <= MOST_MOVES ? moves : 0;
            int s = lastState;
            int move = lastMove;
            for (int i = toldMoves - 1; i >= 0; i--) {
                toldRow[i] = move;
                if (s >= 0 && s < MOST_STATES) {
                    move = moveTo[s];
                    s = before[s];
                }
            }
        }

        int toldMove(int i) {
            return i >= 0 && i < toldMoves && i < MOST_MOVES ? toldRow[i] : NONE;
        }

        int lastLetIn(int x, int h, int right) {
            int last = NONE;
            trial.become(now);
            for (int ticks = 0; ticks <= FARTHEST_TICK; ticks++) {
                if (trial.verdict(h, x, right) == 0) {
                    last = ticks;
                }
                trial.passTick();
            }
            return last;
        }

        private int expand(int s) {
            if (s < 0 || s >= MOST_STATES || seen[s] == null) {
                return GOES_ON;
            }
            World at = seen[s];
            int came = tryLetters(s, at);
            if (came == GOES_ON) {
                came = tryShows(s, at);
            }
            if (came == GOES_ON) {
                came = tryTurns(s, at);
            }
            if (came == GOES_ON) {
                came = tryGives(s, at);
            }
            if (came == GOES_ON) {
                trial.become(at);
                trial.passTick();
                came = reach(s, TICK_MOVE);
            }
            return came;
        }

        private int tryLetters(int s, World at) {
            int came = GOES_ON;
            for (int i = 0; i < at.letters() && came == GOES_ON; i++) {
                trial.become(at);
                trial.come(i);
                came = reach(s, i);
            }
            return came;
        }

        /** A show that is not let in leads back to the state it came from, so only the others are tried. */
        private int tryShows(int s, World at) {
            for (int x = 0; x < at.notes(); x++) {
                if (!at.has(THIEF, x)) {
                    continue;
                }
                for (int h = 0; h < HOUSES; h++) {
                    if (at.verdict(h, x, c) != 0) {
                        continue;
                    }
                    int move = SHOW_MOVE + 4 * x + h;
                    if (goal == THIEF_LET_IN && h == a && at.noteWord(x, World.PERSON) == b) {
                        return meet(s, move);
                    }
                    trial.become(at);
                    trial.letIn(h, x);
                    int came = reach(s, move);
                    if (came != GOES_ON) {
                        return came;
                    }
                }
            }
            return GOES_ON;
        }

        private int tryTurns(int s, World at) {
            int came = GOES_ON;
            for (int x = 0; x < at.notes() && came == GOES_ON; x++) {
                if (at.has(THIEF, x) && at.noteWord(x, World.KIND) == World.REFRESH) {
                    trial.become(at);
                    came = trial.thiefTurns(x) ? reach(s, TURN_MOVE + x) : GOES_ON;
                }
            }
            return came;
        }

        private int tryGives(int s, World at) {
            int came = GOES_ON;
            for (int to = 0; to < THIEF && came == GOES_ON; to++) {
                int pair = at.knownPair(to);
                if (!at.takes(to, pair)) {
                    continue;
                }
                for (int x = 0; x < at.notes() && came == GOES_ON; x++) {
                    if (at.has(THIEF, x)) {
                        trial.become(at);
                        trial.giveComes(to, x, NONE, pair);
                        came = reach(s, GIVE_MOVE + 32 * to + x);
                    }
                }
            }
            return came;
        }

        private int meet(int s, int move) {
            lastState = s;
            lastMove = move;
            return GOAL_MET;
        }

        /** The trial world is what a move from state s led to. */
        private int reach(int s, int move) {
            if (isStrangeNoteTaken()) {
                return meet(s, move);
            }
            return keepIfNew(s, move);
        }

        private boolean isStrangeNoteTaken() {
            if (goal != STRANGE_NOTE) {
                return false;
            }
            for (int x = 0; x < trial.notes(); x++) {
                if (trial.has(a, x) && trial.noteWord(x, World.PERSON) != a) {
                    return true;
                }
            }
            return false;
        }

        private int keepIfNew(int s, int move) {
            int chain = trial.mark() & CHAINS - 1;
            int k = chains[chain];
            for (int i = 0; i < MOST_STATES && k >= 0 && k < MOST_STATES; i++) {
                if (seen[k] != null && trial.isLike(seen[k])) {
                    return GOES_ON;
                }
                k = nextInChain[k];
            }
            if (states < 0 || states >= MOST_STATES) {
                return TOO_MANY;
            }
            if (seen[states] == null) {
                seen[states] = new World(setting, null);
            }
            seen[states].become(trial);
            before[states] = s;
            moveTo[states] = move;
            nextInChain[states] = chains[chain];
            chains[chain] = states;
            states++;
            return GOES_ON;
        }
    }

    /** A slot keeps its place for the longest row, so that laying a row makes nothing new. */
    private static final class Slot {
        final long[] numbers = new long[ROW_LENGTH];
        int width = NONE;
        int size = 0;

        boolean isLaid() {
            return width != NONE;
        }

        void lay(int newWidth, int n) {
            if (n < 0 || n > ROW_LENGTH) {
                return;
            }
            Arrays.fill(numbers, 0L);
            width = newWidth;
            size = n;
        }

        boolean put(int i, long v) {
            if (i < 0 || i >= size || i >= ROW_LENGTH) {
                return false;
            }
            numbers[i] = cut(v);
            return true;
        }

        private long cut(long v) {
            switch (width) {
                case 0: return (byte) v;
                case 1: return (short) v;
                case 2: return (int) v;
                default: return v;
            }
        }

        boolean holds(int from, int n) {
            return from >= 0 && n >= 0 && from <= size && n <= size - from;
        }

        boolean isInt(int i) {
            return i >= 0 && i < size && i < ROW_LENGTH && numbers[i] == (int) numbers[i];
        }

        int intAt(int i) {
            return isInt(i) ? (int) numbers[i] : NONE;
        }
    }
}
