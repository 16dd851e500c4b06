import java.util.Arrays;

/** Text poured round shapes, as the document's promises 1 to 46 tell. */
public final class ShapePour {
    public static final int NONE = -1;

    private static final int NO_SUCH = -2;
    private static final int BAD_NUMBER = -3;
    private static final int TOO_MANY = -4;
    private static final int NOT_NOW = -5;
    private static final int IS_MISSING = -6;
    private static final int NO_SUCH_PLACE = -7;
    private static final int OTHER_KIND = -8;
    private static final int WHY_NOT = -10;
    private static final int FAULTY = -30;
    private static final int SPAN_CODES = -99000000;

    private static final int MOST_BYTES = 900;
    private static final int MOST_SHAPES = 6;
    private static final int MOST_WORDS = 30;
    private static final int MOST_LINES = 20;
    private static final int LEAST_WIDE = 10;
    private static final int MOST_WIDE = 200;
    private static final int MOST_X = 200;
    private static final int MOST_Y = 400;
    private static final int INKS = 10;
    private static final int IMAGES = 2;
    private static final int LOTS = 10;
    private static final int MOST_TIMES = 40;

    private static final int BOX = 0;
    private static final int CIRCLE = 1;
    private static final int WEDGE = 2;

    private final byte[] tape = new byte[MOST_BYTES];
    private int taped = 0;
    private final Reader reader;
    // The page of now, one for each image, and one to read the next text into.
    private final Page[] pages = new Page[IMAGES + 2];
    private int pageAt = 0;
    private final State state = new State();
    private final State draft = new State();
    private final Past past = new Past();
    private final int[] imagePage = new int[IMAGES];
    private final State[] imageState = new State[IMAGES];
    private final Setting now;
    private final Setting trial;
    private boolean settled = false;
    private final Breaks breaks = new Breaks();
    private final Trays trays = new Trays();
    private final Drawer drawer = new Drawer();
    private int drawn = 0;
    private int lotsFine = 0;
    private int lotsLines = 0;

    public ShapePour() {
        for (int i = 0; i < pages.length; i++) {
            pages[i] = new Page();
        }
        for (int i = 0; i < IMAGES; i++) {
            imagePage[i] = NONE;
            imageState[i] = new State();
        }
        reader = new Reader(tape, pages[0]);
        now = new Setting(pages[0], state);
        trial = new Setting(pages[0], draft);
    }

    // ---- the page

    public int feed(int a, int b, int c, int d, int e) {
        if (taped + 20 > MOST_BYTES) {
            return NOT_NOW;
        }
        putBytes(a);
        putBytes(b);
        putBytes(c);
        putBytes(d);
        putBytes(e);
        return taped;
    }

    public int page(int n) {
        if (n < 0 || n > taped) {
            return BAD_NUMBER;
        }
        int spare = sparePage();
        Page next = pages[spare];
        reader.read(n, next);
        taped = 0;
        if (reader.fault != 0) {
            return FAULTY - reader.fault;
        }
        goOnFrom(spare, next.start);
        return next.told;
    }

    public int fault(int what) {
        return what == 0 ? reader.fault : what == 1 ? reader.faultAt : NONE;
    }

    public int set(int what) {
        Page page = current();
        switch (what) {
            case 0: return page.wide;
            case 1: return page.lines;
            case 2: return page.high;
            case 3: return page.least;
            default: return NO_SUCH;
        }
    }

    public int shape(int s, int what) {
        if (!isShape(s)) {
            return NO_SUCH;
        }
        switch (what) {
            case 0: return current().kind[s];
            case 1: return state.x[s];
            case 2: return state.y[s];
            case 3: return state.tie[s];
            case 4: return setting().shapeY[s];
            default: return NO_SUCH;
        }
    }

    public int word(int w, int what) {
        if (!isWord(w)) {
            return NO_SUCH;
        }
        switch (what) {
            case 0: return current().letters[w];
            case 1: return wideNow(w);
            case 2: return state.hides(w) ? 1 : 0;
            default: return NO_SUCH;
        }
    }

    public int span(int s, int line, int what) {
        if (!isShape(s) || !isLine(line) || what < 0 || what > 1) {
            return SPAN_CODES + NO_SUCH;
        }
        Setting all = setting();
        int reach = current().reach(s, all.shapeY[s], line);
        if (reach < 0) {
            return SPAN_CODES + NONE;
        }
        return what == 0 ? all.spanLeft(s, line, reach) : all.spanRight(s, line, reach);
    }

    public int slots(int line) {
        return isLine(line) ? setting().slots.inOne(line) : NO_SUCH;
    }

    public int slot(int line, int i, int what) {
        if (!isLine(line) || what < 0 || what > 2) {
            return NO_SUCH;
        }
        if (i < 0) {
            return BAD_NUMBER;
        }
        Slots all = setting().slots;
        if (i >= all.inOne(line)) {
            return NONE;
        }
        int at = all.begin[line] + i;
        return what == 0 ? all.left[at] : what == 1 ? all.right[at] : all.words[at];
    }

    public int lies(int w, int what) {
        if (!isWord(w) || what < 0 || what > 2) {
            return NO_SUCH;
        }
        Setting all = setting();
        int at = all.wordSlot[w];
        if (at < 0) {
            return NONE;
        }
        int line = all.slots.line[at];
        return what == 0 ? line : what == 1 ? all.wordLeft[w] : at - all.slots.begin[line];
    }

    // ---- deeds

    public int move(int s, int axis, int by) {
        draft.copyFrom(state);
        int why = draft.shift(current(), s, axis, by);
        if (why != 0) {
            return WHY_NOT - why;
        }
        takeDraft();
        return axis == 0 ? state.x[s] : state.y[s];
    }

    public int tie(int s, int w) {
        draft.copyFrom(state);
        int why = draft.bind(current(), s, w);
        if (why != 0) {
            return WHY_NOT - why;
        }
        int before = state.tie[s];
        takeDraft();
        return before;
    }

    public int hide(int w) {
        draft.copyFrom(state);
        int why = draft.flip(current(), w);
        if (why != 0) {
            return WHY_NOT - why;
        }
        takeDraft();
        return state.hides(w) ? 1 : 0;
    }

    public int ink(int n) {
        draft.copyFrom(state);
        int why = draft.dye(n);
        if (why != 0) {
            return WHY_NOT - why;
        }
        int before = state.ink;
        takeDraft();
        return before;
    }

    public int undo(int n) {
        if (n < 1 || n > past.depth) {
            return BAD_NUMBER;
        }
        past.bringBack(n, state);
        settled = false;
        return past.depth;
    }

    public int judge(int tray, int what) {
        if (!trays.isTray(tray) || what < 0 || what > 3) {
            return NO_SUCH;
        }
        if (trays.size[tray] < 0) {
            return IS_MISSING;
        }
        int could = draftDeeds(tray);
        boolean all = could == trays.size[tray];
        if (what == 0) {
            return all ? NONE : could;
        }
        if (what == 1) {
            // The draft stands as it was when this deed was refused, so it is refused again.
            return all ? 0 : draft.deed(current(), trays.get(tray, could));
        }
        tryDraft(NONE);
        return what == 2 ? trial.placed : trial.lastLine();
    }

    public int perform(int tray) {
        int refused = trays.refusal(tray);
        if (refused != 0) {
            return refused;
        }
        int could = draftDeeds(tray);
        if (could > 0) {
            takeDraft();
        }
        return could;
    }

    public int day(int seed, int times) {
        if (times < 1 || times > MOST_TIMES) {
            return BAD_NUMBER;
        }
        draft.copyFrom(state);
        drawn = seed;
        int could = 0;
        for (int i = 0; i < times; i++) {
            if (draft.deed(current(), drawnDeed()) == 0) {
                could++;
            }
        }
        if (could > 0) {
            takeDraft();
        }
        return could;
    }

    // ---- the setting

    public int placed() {
        return setting().placed;
    }

    public int last() {
        return setting().lastLine();
    }

    public int inLine(int line) {
        if (!isLine(line)) {
            return NO_SUCH;
        }
        Setting all = setting();
        int bits = 0;
        for (int w = 0; w < current().words; w++) {
            if (all.lineOf(w) == line) {
                bits |= 1 << w;
            }
        }
        return bits;
    }

    public int full(int line) {
        if (!isLine(line)) {
            return NO_SUCH;
        }
        Page page = current();
        Setting all = setting();
        int taken = 0;
        for (int w = 0; w < page.words; w++) {
            if (all.lineOf(w) == line) {
                taken += page.wideOf(w, state.ink);
            }
        }
        return page.wide > 0 ? taken * 1000 / page.wide : 0;
    }

    public int ragged() {
        return setting().raggedness();
    }

    public int tight() {
        if (setting().placed == 0) {
            return NONE;
        }
        breaks.find(now);
        return breaks.least;
    }

    public long tightWays() {
        if (setting().placed == 0) {
            return NONE;
        }
        breaks.find(now);
        return breaks.many;
    }

    public int rounds() {
        return setting().round;
    }

    public int still() {
        return setting().stillness;
    }

    public int clash() {
        return setting().clashing();
    }

    // ---- otherwise

    public int leastWide() {
        Page page = current();
        int shown = page.words - Integer.bitCount(state.hidden);
        for (int wide = LEAST_WIDE; wide <= MOST_WIDE; wide++) {
            trial.settle(page, state, wide, NONE);
            if (trial.placed == shown) {
                return wide;
            }
        }
        return NONE;
    }

    public int bestX(int s) {
        if (!isShape(s)) {
            return NO_SUCH;
        }
        draft.copyFrom(state);
        int best = 0;
        int most = NONE;
        int leastLast = NONE;
        for (int x = 0; x <= MOST_X; x++) {
            draft.x[s] = x;
            tryDraft(NONE);
            if (trial.isBetter(most, leastLast)) {
                best = x;
                most = trial.placed;
                leastLast = trial.lastLine();
            }
        }
        return best;
    }

    public int costs() {
        draft.copyFrom(state);
        int best = NONE;
        int most = NONE;
        int leastLast = NONE;
        for (int s = 0; s < current().shapes; s++) {
            tryDraft(s);
            if (trial.isBetter(most, leastLast)) {
                best = s;
                most = trial.placed;
                leastLast = trial.lastLine();
            }
        }
        return best;
    }

    public int pushes(int s) {
        if (!isShape(s)) {
            return NO_SUCH;
        }
        Setting all = setting();
        draft.copyFrom(state);
        tryDraft(s);
        int bits = 0;
        for (int w = 0; w < current().words; w++) {
            if (all.lineOf(w) != trial.lineOf(w) || all.wordLeft[w] != trial.wordLeft[w]) {
                bits |= 1 << w;
            }
        }
        return bits;
    }

    // ---- seen

    public int inks(int tray) {
        return seenBy(tray);
    }

    public int measure(int tray) {
        int seen = seenBy(tray);
        if (seen < 0) {
            return seen;
        }
        if (seen == 0) {
            return NONE;
        }
        int best = NONE;
        int least = INKS + 1;
        for (int w = 0; w < current().words; w++) {
            int alike = current().mostAlike(w, seen);
            if (alike < least) {
                best = w;
                least = alike;
            }
        }
        return best;
    }

    // ---- chances

    public int chance(int n, int what) {
        int refused = refusedLots(n, what);
        if (refused != 0) {
            return refused;
        }
        drawLots(n);
        return lowest(lotsFine, lotsIn(n), what);
    }

    public int mean(int n, int what) {
        int refused = refusedLots(n, what);
        if (refused != 0) {
            return refused;
        }
        drawLots(n);
        return lowest(lotsLines, lotsIn(n), what);
    }

    // ---- the drawer

    public int drawer(int kind, int n) {
        if (kind < BOX || kind > WEDGE) {
            return NO_SUCH;
        }
        if (n < 0 || n > Drawer.MOST) {
            return BAD_NUMBER;
        }
        drawer.build(kind, n);
        return 0;
    }

    public int keep(int place, int s) {
        if (!isShape(s)) {
            return NO_SUCH;
        }
        int refused = drawer.refusal(place);
        if (refused != 0) {
            return refused;
        }
        if (current().kind[s] != drawer.kind) {
            return OTHER_KIND;
        }
        drawer.x[place] = state.x[s];
        drawer.y[place] = state.y[s];
        return 0;
    }

    public int kept(int place, int what) {
        if (what < 0 || what > 1) {
            return NO_SUCH;
        }
        int refused = drawer.refusal(place);
        if (refused != 0) {
            return refused;
        }
        if (drawer.x[place] < 0) {
            return NOT_NOW;
        }
        return what == 0 ? drawer.x[place] : drawer.y[place];
    }

    // ---- trays, images

    public int numbers(int tray, int sort, int n) {
        if (!trays.isTray(tray) || sort < 0 || sort > Trays.LONGEST) {
            return NO_SUCH;
        }
        if (n < 0 || n > Trays.MOST) {
            return BAD_NUMBER;
        }
        trays.build(tray, sort, n);
        return 0;
    }

    public long write(int tray, int i, long v) {
        int refused = trays.refusal(tray);
        if (refused != 0) {
            return refused;
        }
        if (i < 0 || i >= trays.size[tray]) {
            return NO_SUCH_PLACE;
        }
        return trays.put(tray, i, v);
    }

    public int lists(int tray) {
        int refused = trays.refusal(tray);
        if (refused != 0) {
            return refused;
        }
        Setting all = setting();
        int n = Math.min(current().words, trays.size[tray]);
        for (int w = 0; w < n; w++) {
            trays.put(tray, w, all.lineOf(w));
        }
        return n;
    }

    public int image(int i) {
        if (i < 0 || i >= IMAGES) {
            return NO_SUCH;
        }
        imagePage[i] = pageAt;
        imageState[i].copyFrom(state);
        return 0;
    }

    public int restore(int i) {
        if (i < 0 || i >= IMAGES) {
            return NO_SUCH;
        }
        if (imagePage[i] < 0) {
            return NOT_NOW;
        }
        goOnFrom(imagePage[i], imageState[i]);
        return 0;
    }

    public int count(int what) {
        switch (what) {
            case 0: return current().shapes;
            case 1: return current().words;
            case 2: return state.ink;
            case 3: return state.hidden;
            case 4: return state.tiedShapes();
            case 5: return setting().slots.total;
            case 6: return past.depth;
            case 7: return taped;
            case 8: return current().told;
            default: return NONE;
        }
    }

    // ---- what the calls share

    private void putBytes(int four) {
        for (int shift = 24; shift >= 0 && taped < tape.length; shift -= 8) {
            tape[taped] = (byte) (four >>> shift);
            taped++;
        }
    }

    private Page current() {
        return pages[pageAt];
    }

    private boolean isShape(int s) {
        return s >= 0 && s < current().shapes;
    }

    private boolean isWord(int w) {
        return w >= 0 && w < current().words;
    }

    private boolean isLine(int line) {
        return line >= 0 && line < current().lines;
    }

    private int wideNow(int w) {
        current().learnWides(state.ink);
        return current().wideOf(w, state.ink);
    }

    /** There are two pages more than images, so one is neither kept by an image nor the one of now. */
    private int sparePage() {
        int spare = 0;
        for (int i = 0; i < pages.length; i++) {
            if (i != pageAt && i != imagePage[0] && i != imagePage[1]) {
                spare = i;
            }
        }
        return spare;
    }

    private void goOnFrom(int page, State from) {
        pageAt = page;
        state.copyFrom(from);
        past.forget();
        settled = false;
    }

    private void takeDraft() {
        past.push(state);
        state.copyFrom(draft);
        settled = false;
    }

    private Setting setting() {
        if (!settled) {
            now.settle(current(), state, current().wide, NONE);
            now.cutRest();
            settled = true;
        }
        return now;
    }

    private void tryDraft(int without) {
        trial.settle(current(), draft, current().wide, without);
    }

    /** Does the tray's deeds on the draft, till one can't be; the tray is there. */
    private int draftDeeds(int tray) {
        draft.copyFrom(state);
        for (int i = 0; i < trays.size[tray]; i++) {
            if (draft.deed(current(), trays.get(tray, i)) != 0) {
                return i;
            }
        }
        return trays.size[tray];
    }

    private int draw() {
        drawn = 1103515245 * drawn + 12345;
        return drawn >>> 16;
    }

    /** Java takes the operands of + from the left, so the draws come in the document's order. */
    private int drawnDeed() {
        switch (draw() % 5) {
            case 0: return 10 + draw() % 10;
            case 1: return 100 + draw() % 30;
            case 2: return 1000 + 100 * (draw() % 6) + draw() % 30;
            case 3: return 10000 + 1000 * (draw() % 6) + draw() % 201;
            default: return 20000 + 1000 * (draw() % 6) + draw() % 201;
        }
    }

    /** The inks by which all is as the tray tells, as bits; below 0: why it is refused. */
    private int seenBy(int tray) {
        int refused = trays.refusal(tray);
        if (refused != 0) {
            return refused;
        }
        int n = trays.size[tray];
        if (n < 1 || n > 8) {
            return TOO_MANY;
        }
        for (int ink = 0; ink < INKS; ink++) {
            current().learnWides(ink);
        }
        int seen = (1 << INKS) - 1;
        for (int i = 0; i < n; i++) {
            long told = trays.get(tray, i);
            if (told < 0 || told >= 1000L * current().words) {
                return BAD_NUMBER;
            }
            int wide = (int) (told % 1000);
            if (wide < 1 || wide > MOST_WIDE) {
                return BAD_NUMBER;
            }
            seen &= current().inksBy((int) (told / 1000), wide);
        }
        return seen;
    }

    private static int refusedLots(int n, int what) {
        if (what < 0 || what > 1) {
            return NO_SUCH;
        }
        return n < 0 || n > 2 ? BAD_NUMBER : 0;
    }

    private static int lotsIn(int n) {
        return n == 0 ? 1 : n == 1 ? LOTS : LOTS * LOTS;
    }

    /** Goes through all draws of n lots; two that differ only in their order are tried once. */
    private void drawLots(int n) {
        lotsFine = 0;
        lotsLines = 0;
        draft.copyFrom(state);
        if (n == 0) {
            addDraw(1);
            return;
        }
        for (int v = 0; v < LOTS; v++) {
            int end = n == 2 ? LOTS : v + 1;
            for (int u = v; u < end; u++) {
                draft.hidden = state.hidden | lotBit(v) | lotBit(u);
                addDraw(u == v ? 1 : 2);
            }
        }
    }

    private int lotBit(int v) {
        return v < current().words ? 1 << v : 0;
    }

    private void addDraw(int times) {
        trial.settle(current(), draft, current().wide, NONE);
        if (trial.placed == current().words - Integer.bitCount(draft.hidden)) {
            lotsFine += times;
        }
        lotsLines += times * (trial.lastLine() + 1);
    }

    private static int lowest(int above, int below, int what) {
        int a = above;
        int b = below;
        for (int i = 0; i < 64 && a > 0; i++) {
            int rest = b % a;
            b = a;
            a = rest;
        }
        int common = b > 0 ? b : 1;
        return what == 0 ? above / common : below / common;
    }

    // ---- what is held

    /** All that deeds change. */
    private static final class State {
        final int[] x = new int[MOST_SHAPES];
        final int[] y = new int[MOST_SHAPES];
        final int[] tie = new int[MOST_SHAPES];
        int hidden = 0;
        int ink = 0;

        State() {
            Arrays.fill(tie, NONE);
        }

        void clear() {
            Arrays.fill(x, 0);
            Arrays.fill(y, 0);
            Arrays.fill(tie, NONE);
            hidden = 0;
            ink = 0;
        }

        void copyFrom(State other) {
            for (int s = 0; s < MOST_SHAPES; s++) {
                x[s] = other.x[s];
                y[s] = other.y[s];
                tie[s] = other.tie[s];
            }
            hidden = other.hidden;
            ink = other.ink;
        }

        boolean hides(int w) {
            return (hidden >>> w & 1) != 0;
        }

        int tiedShapes() {
            int bits = 0;
            for (int s = 0; s < MOST_SHAPES; s++) {
                if (tie[s] != NONE) {
                    bits |= 1 << s;
                }
            }
            return bits;
        }

        // Each deed answers why it can't be, 0 if it is done.

        int shift(Page page, int s, int axis, int by) {
            if (s < 0 || s >= page.shapes || axis < 0 || axis > 1 || by < -100 || by > 100) {
                return 1;
            }
            int[] row = axis == 0 ? x : y;
            int to = row[s] + by;
            if (to < 0 || to > (axis == 0 ? MOST_X : MOST_Y)) {
                return 2;
            }
            row[s] = to;
            return 0;
        }

        int bind(Page page, int s, int w) {
            if (s < 0 || s >= page.shapes || w < NONE || w >= MOST_WORDS) {
                return 1;
            }
            tie[s] = w;
            return 0;
        }

        int flip(Page page, int w) {
            if (w < 0 || w >= page.words) {
                return 1;
            }
            hidden ^= 1 << w;
            return 0;
        }

        int dye(int n) {
            if (n < 0 || n >= INKS) {
                return 1;
            }
            ink = n;
            return 0;
        }

        int deed(Page page, long told) {
            if (told < 10 || told > 25999) {
                return 1;
            }
            int v = (int) told;
            if (v <= 19) {
                return dye(v - 10);
            }
            if (v >= 100 && v <= 129) {
                return flip(page, v - 100);
            }
            if (v >= 1000 && v <= 1599) {
                int w = v % 100;
                return w == 99 ? bind(page, (v - 1000) / 100, NONE) : bind(page, (v - 1000) / 100, w);
            }
            if (v >= 10000 && v <= 15999) {
                return shift(page, (v - 10000) / 1000, 0, v % 1000 - 100);
            }
            if (v >= 20000) {
                return shift(page, (v - 20000) / 1000, 1, v % 1000 - 100);
            }
            return 1;
        }
    }

    /** What calls can bring back, the latest last; a ring, so that the eldest is written over. */
    private static final class Past {
        private static final int MOST = 10;
        private final State[] ring = new State[MOST];
        private int next = 0;
        int depth = 0;

        Past() {
            for (int i = 0; i < MOST; i++) {
                ring[i] = new State();
            }
        }

        void forget() {
            depth = 0;
        }

        void push(State before) {
            ring[next].copyFrom(before);
            next = (next + 1) % MOST;
            depth = Math.min(depth + 1, MOST);
        }

        /** n is 1 to depth. */
        void bringBack(int n, State into) {
            next = Math.floorMod(next - n, MOST);
            depth -= n;
            into.copyFrom(ring[next]);
        }
    }

    private static final class Trays {
        static final int MOST = 40;
        static final int LONGEST = 3;
        private static final int TRAYS = 4;
        private final long[] all = new long[TRAYS * MOST];
        private final int[] sorts = new int[TRAYS];
        final int[] size = new int[TRAYS];

        Trays() {
            Arrays.fill(size, NONE);
        }

        boolean isTray(int tray) {
            return tray >= 0 && tray < TRAYS;
        }

        int refusal(int tray) {
            if (!isTray(tray)) {
                return NO_SUCH;
            }
            return size[tray] < 0 ? IS_MISSING : 0;
        }

        void build(int tray, int sort, int n) {
            sorts[tray] = sort;
            size[tray] = n;
            for (int i = 0; i < n; i++) {
                all[tray * MOST + i] = 0;
            }
        }

        long get(int tray, int i) {
            return all[tray * MOST + i];
        }

        long put(int tray, int i, long v) {
            long cut = v;
            switch (sorts[tray]) {
                case 0: cut = (byte) v; break;
                case 1: cut = (short) v; break;
                case 2: cut = (int) v; break;
                default: break;
            }
            all[tray * MOST + i] = cut;
            return cut;
        }
    }

    private static final class Drawer {
        static final int MOST = 9;
        int kind = NONE;
        private int places = NONE;
        // An x below 0: the place is empty.
        final int[] x = new int[MOST];
        final int[] y = new int[MOST];

        void build(int forKind, int n) {
            kind = forKind;
            places = n;
            Arrays.fill(x, NONE);
        }

        int refusal(int place) {
            if (places < 0) {
                return IS_MISSING;
            }
            return place < 0 || place >= places ? NO_SUCH_PLACE : 0;
        }
    }

    /** A law, as work on a stack; a code of 0 and more is that number. */
    private static final class Law {
        // What the law is told of: the ink, and for a word its size, number and
        // first letter, for a shape in a line the numbers of both.
        static final int OF_INK = -1;
        static final int OF_SIZE = -2;
        static final int OF_WORD = -3;
        static final int OF_FIRST = -4;
        static final int OF_SHAPE = -2;
        static final int OF_LINE = -3;
        static final int ADD = -5;
        static final int MINUS = -6;
        static final int TIMES = -7;
        static final int IS = -8;
        static final int BELOW = -9;
        static final int ABOVE = -10;
        static final int NOT = -11;
        static final int AND = -12;
        static final int OR = -13;
        static final int CHOOSE = -14;

        private static final int FAR = 1000000;
        // Six things within one another, each with five values at most that wait.
        private static final int STACK = 64;

        private final int[] code = new int[MOST_BYTES];
        private final int[] of = new int[4];
        private final int[] stack = new int[STACK];
        // 0: no such law was told.
        int length = 0;

        void add(int op) {
            if (length < code.length) {
                code[length] = op;
                length++;
            }
        }

        int tell(int ink, int a, int b, int c) {
            of[0] = ink;
            of[1] = a;
            of[2] = b;
            of[3] = c;
            int top = 0;
            for (int i = 0; i < length; i++) {
                int op = code[i];
                if (op < OF_FIRST) {
                    top = work(op, top);
                } else if (top < STACK) {
                    stack[top] = op >= 0 ? op : of[-1 - op];
                    top++;
                }
            }
            return stack[0];
        }

        private int work(int op, int top) {
            if (op == NOT && top >= 1) {
                stack[top - 1] = 1 - stack[top - 1];
                return top;
            }
            if (op == CHOOSE && top >= 3) {
                stack[top - 3] = stack[top - 3] != 0 ? stack[top - 2] : stack[top - 1];
                return top - 2;
            }
            if (top < 2) {
                return top;
            }
            int a = stack[top - 2];
            int b = stack[top - 1];
            long told;
            switch (op) {
                case ADD: told = a + b; break;
                case MINUS: told = a - b; break;
                case TIMES: told = (long) a * b; break;
                case IS: told = a == b ? 1 : 0; break;
                case BELOW: told = a < b ? 1 : 0; break;
                case ABOVE: told = a > b ? 1 : 0; break;
                case AND: told = a & b; break;
                default: told = a | b; break;
            }
            stack[top - 2] = (int) Math.max(-FAR, Math.min(FAR, told));
            return top - 1;
        }

        static int within(int v, int least, int most) {
            return Math.max(least, Math.min(most, v));
        }
    }

    /** What a text tells; deeds leave it as it is. */
    private static final class Page {
        int wide;
        int lines;
        int high;
        int least;
        int told;
        int shapes;
        final int[] kind = new int[MOST_SHAPES];
        // How wide a box is, a circle's radius, half of a wedge's foot.
        final int[] across = new int[MOST_SHAPES];
        final int[] tall = new int[MOST_SHAPES];
        int words;
        final int[] letters = new int[MOST_WORDS];
        final int[] first = new int[MOST_WORDS];
        final State start = new State();
        final Law wideLaw = new Law();
        final Law gapLaw = new Law();
        // What the laws tell, ink by ink, worked out when an ink is first used (as bits).
        private final int[] wides = new int[INKS * MOST_WORDS];
        private final int[] gaps = new int[INKS * MOST_SHAPES * MOST_LINES];
        private int widesKnown;
        private int gapsKnown;

        Page() {
            clear();
        }

        void clear() {
            wide = 40;
            lines = 10;
            high = 5;
            least = 4;
            told = 0;
            shapes = 0;
            words = 0;
            start.clear();
            wideLaw.length = 0;
            gapLaw.length = 0;
            widesKnown = 0;
            gapsKnown = 0;
        }

        void learnWides(int ink) {
            if ((widesKnown >>> ink & 1) != 0) {
                return;
            }
            widesKnown |= 1 << ink;
            for (int w = 0; w < words; w++) {
                int told = wideLaw.length == 0 ? letters[w] : wideLaw.tell(ink, letters[w], w, first[w]);
                wides[ink * MOST_WORDS + w] = Law.within(told, 1, MOST_WIDE);
            }
        }

        void learnGaps(int ink) {
            if ((gapsKnown >>> ink & 1) != 0) {
                return;
            }
            gapsKnown |= 1 << ink;
            for (int s = 0; s < shapes; s++) {
                for (int line = 0; line < lines; line++) {
                    int told = gapLaw.length == 0 ? 0 : gapLaw.tell(ink, s, line, 0);
                    gaps[(ink * MOST_SHAPES + s) * MOST_LINES + line] = Law.within(told, 0, 20);
                }
            }
        }

        // These tell what was learned before.

        int wideOf(int w, int ink) {
            return wides[ink * MOST_WORDS + w];
        }

        int gapOf(int s, int line, int ink) {
            return gaps[(ink * MOST_SHAPES + s) * MOST_LINES + line];
        }

        /** The inks by which a word is so wide, as bits. */
        int inksBy(int w, int wideThen) {
            int bits = 0;
            for (int ink = 0; ink < INKS; ink++) {
                if (wideOf(w, ink) == wideThen) {
                    bits |= 1 << ink;
                }
            }
            return bits;
        }

        /** The greatest number of these inks by which a word is as wide. */
        int mostAlike(int w, int seen) {
            int most = 0;
            for (int ink = 0; ink < INKS; ink++) {
                if ((seen >>> ink & 1) != 0) {
                    most = Math.max(most, Integer.bitCount(inksBy(w, wideOf(w, ink)) & seen));
                }
            }
            return most;
        }

        /**
         * How far a shape at this y reaches in a line: a box to the right of its x, others to both
         * sides. NONE: it isn't in that line (with y NONE: in none). The document rounds floats;
         * here the same comes of whole numbers, as a root or quotient that is not whole is 1/201 or
         * more away from any, far beyond what a float loses there.
         */
        int reach(int s, int y, int line) {
            if (y < 0) {
                return NONE;
            }
            int top = line * high;
            int foot = top + high;
            if (kind[s] == CIRCLE) {
                int off = y < top ? top - y : y > foot ? y - foot : 0;
                int r = across[s];
                return off < r ? rootUp(r * r - off * off) : NONE;
            }
            if (y >= foot || y + tall[s] <= top || tall[s] <= 0) {
                return NONE;
            }
            if (kind[s] == BOX) {
                return across[s];
            }
            int at = Math.min(foot - y, tall[s]);
            return (across[s] * at + tall[s] - 1) / tall[s];
        }

        /** The least whole number whose square is n (at most 100 times 100) or more. */
        private static int rootUp(int n) {
            int low = 0;
            int up = 100;
            for (int i = 0; i < 7 && low < up; i++) {
                int mid = (low + up) / 2;
                if (mid * mid >= n) {
                    up = mid;
                } else {
                    low = mid + 1;
                }
            }
            return up;
        }
    }

    /** What the spans leave of the lines, from the first line on. */
    private static final class Slots {
        // A line with six spans apart has seven slots.
        private static final int MOST = MOST_LINES * (MOST_SHAPES + 1);

        final int[] line = new int[MOST];
        final int[] left = new int[MOST];
        final int[] right = new int[MOST];
        final int[] words = new int[MOST];
        int total = 0;
        // Where the slots of each line begin, and behind the last cut line where they end.
        final int[] begin = new int[MOST_LINES + 1];
        int linesCut = 0;
        // The spans of the line that is cut next, in the order of their lefts.
        private final int[] spanLeft = new int[MOST_SHAPES];
        private final int[] spanRight = new int[MOST_SHAPES];
        private int spans = 0;

        void clear() {
            total = 0;
            linesCut = 0;
            spans = 0;
        }

        void addSpan(int from, int to) {
            if (spans >= MOST_SHAPES) {
                return;
            }
            int at = spans;
            while (at > 0 && spanLeft[at - 1] > from) {
                spanLeft[at] = spanLeft[at - 1];
                spanRight[at] = spanRight[at - 1];
                at--;
            }
            spanLeft[at] = from;
            spanRight[at] = to;
            spans++;
        }

        /** Cuts the next line by its spans. */
        void cutLine(int wide, int least) {
            if (linesCut >= MOST_LINES) {
                return;
            }
            begin[linesCut] = total;
            int free = 0;
            for (int i = 0; i < spans; i++) {
                addSlot(free, Math.min(spanLeft[i], wide), least);
                free = Math.max(free, spanRight[i]);
            }
            addSlot(free, wide, least);
            spans = 0;
            linesCut++;
            begin[linesCut] = total;
        }

        private void addSlot(int from, int to, int least) {
            if (to - from >= least && total < MOST) {
                line[total] = linesCut;
                left[total] = from;
                right[total] = to;
                words[total] = 0;
                total++;
            }
        }

        int inOne(int which) {
            return begin[which + 1] - begin[which];
        }

        /** What is left of a slot by words that take so much, with 1 between each. */
        int leftOver(int slot, int taken, int many) {
            return right[slot] - left[slot] - taken - (many - 1);
        }
    }

    /** The words and shapes of a page, set round by round. */
    private static final class Setting {
        private static final int LAST_ROUND = 60;
        private static final int STILL = 0;
        private static final int CLASHES = 1;
        private static final int NEITHER = 2;

        private Page page;
        private State state;
        private int wide = 0;
        final Slots slots = new Slots();
        final int[] wordSlot = new int[MOST_WORDS];
        final int[] wordLeft = new int[MOST_WORDS];
        // NONE: the shape isn't there.
        final int[] shapeY = new int[MOST_SHAPES];
        private final int[] tiedTo = new int[MOST_SHAPES];
        // For each round the lines of the words to which shapes are tied.
        private final int[] trail = new int[(LAST_ROUND + 1) * MOST_SHAPES];
        int placed = 0;
        int round = 0;
        int stillness = STILL;
        private int backTo = NONE;

        Setting(Page first, State as) {
            page = first;
            state = as;
        }

        /** Sets all as if the page were so wide and one shape (or NONE) were not on it. */
        void settle(Page onPage, State as, int wideThen, int without) {
            page = onPage;
            state = as;
            wide = wideThen;
            page.learnWides(state.ink);
            page.learnGaps(state.ink);
            round = 0;
            backTo = NONE;
            stillness = setFreeShapes(without) ? NEITHER : STILL;
            pour();
            mark();
            for (int k = 1; k <= LAST_ROUND && stillness == NEITHER; k++) {
                setTiedShapes();
                round = k;
                pour();
                mark();
                weigh();
            }
        }

        /** Cuts the lines behind the last one that pouring came to. */
        void cutRest() {
            for (int line = slots.linesCut; line < page.lines; line++) {
                cut(line);
            }
        }

        /** Sets the shapes of round 0; answers whether others are tied. */
        private boolean setFreeShapes(int without) {
            boolean tied = false;
            for (int s = 0; s < page.shapes; s++) {
                tiedTo[s] = s == without ? NONE : state.tie[s];
                shapeY[s] = s == without || tiedTo[s] != NONE ? NONE : state.y[s];
                tied = tied || tiedTo[s] != NONE;
            }
            return tied;
        }

        /** Sets the tied ones by where their words lie in the round that was poured. */
        private void setTiedShapes() {
            for (int s = 0; s < page.shapes; s++) {
                if (tiedTo[s] != NONE) {
                    int line = lineOf(tiedTo[s]);
                    shapeY[s] = line < 0 ? NONE : state.y[s] + page.high * line;
                }
            }
        }

        private void mark() {
            for (int s = 0; s < page.shapes; s++) {
                trail[round * MOST_SHAPES + s] = lineOf(tiedTo[s]);
            }
        }

        private void weigh() {
            if (isAsIn(round - 1)) {
                stillness = STILL;
                return;
            }
            for (int k = 0; k < round - 1; k++) {
                if (isAsIn(k)) {
                    stillness = CLASHES;
                    backTo = k;
                    return;
                }
            }
        }

        private boolean isAsIn(int k) {
            for (int s = 0; s < page.shapes; s++) {
                if (trail[k * MOST_SHAPES + s] != trail[round * MOST_SHAPES + s]) {
                    return false;
                }
            }
            return true;
        }

        private void pour() {
            Arrays.fill(wordSlot, NONE);
            Arrays.fill(wordLeft, NONE);
            slots.clear();
            placed = 0;
            int w = 0;
            for (int line = 0; line < page.lines && w < page.words; line++) {
                cut(line);
                for (int i = slots.begin[line]; i < slots.total; i++) {
                    w = fill(i, w);
                }
            }
        }

        /** Puts words into a slot, from one on; answers the first that found no room in it. */
        private int fill(int slot, int from) {
            int at = slots.left[slot];
            for (int w = from; w < page.words; w++) {
                if (state.hides(w)) {
                    continue;
                }
                int takes = page.wideOf(w, state.ink);
                if (at + takes > slots.right[slot]) {
                    return w;
                }
                wordSlot[w] = slot;
                wordLeft[w] = at;
                slots.words[slot]++;
                placed++;
                at += takes + 1;
            }
            return page.words;
        }

        private void cut(int line) {
            for (int s = 0; s < page.shapes; s++) {
                int reach = page.reach(s, shapeY[s], line);
                if (reach >= 0) {
                    slots.addSpan(spanLeft(s, line, reach), spanRight(s, line, reach));
                }
            }
            slots.cutLine(wide, page.least);
        }

        int spanLeft(int s, int line, int reach) {
            int outline = page.kind[s] == BOX ? state.x[s] : state.x[s] - reach;
            return outline - page.gapOf(s, line, state.ink);
        }

        int spanRight(int s, int line, int reach) {
            return state.x[s] + reach + page.gapOf(s, line, state.ink);
        }

        /** The line of a word; NONE for one that has no place or isn't there. */
        int lineOf(int w) {
            if (w < 0 || w >= page.words || wordSlot[w] < 0) {
                return NONE;
            }
            return slots.line[wordSlot[w]];
        }

        int lastLine() {
            int last = NONE;
            for (int w = 0; w < page.words; w++) {
                last = Math.max(last, lineOf(w));
            }
            return last;
        }

        boolean isBetter(int most, int leastLast) {
            return placed > most || placed == most && lastLine() < leastLast;
        }

        /** A slot is counted when a word lies behind it, so that of the last word is not. */
        int raggedness() {
            int sum = 0;
            int taken = 0;
            int slot = NONE;
            for (int w = 0; w < page.words; w++) {
                if (wordSlot[w] < 0) {
                    continue;
                }
                if (wordSlot[w] != slot) {
                    int left = slot < 0 ? 0 : slots.leftOver(slot, taken, slots.words[slot]);
                    sum += left * left;
                    slot = wordSlot[w];
                    taken = 0;
                }
                taken += page.wideOf(w, state.ink);
            }
            return sum;
        }

        /** The shapes that are not set alike in all rounds behind the one it came back to, as bits. */
        int clashing() {
            int bits = 0;
            if (backTo < 0) {
                return bits;
            }
            // A round's shapes are set by the words of the round ahead of it.
            for (int s = 0; s < page.shapes; s++) {
                for (int k = backTo + 1; k < round; k++) {
                    if (trail[k * MOST_SHAPES + s] != trail[backTo * MOST_SHAPES + s]) {
                        bits |= 1 << s;
                    }
                }
            }
            return bits;
        }

        /** How wide the words that have a place are, in their order; answers how many these are. */
        int placedWides(int[] into) {
            int n = 0;
            for (int w = 0; w < page.words && n < into.length; w++) {
                if (wordSlot[w] >= 0) {
                    into[n] = page.wideOf(w, state.ink);
                    n++;
                }
            }
            return n;
        }
    }

    /** The least raggedness by other breaks. */
    private static final class Breaks {
        private static final int NO_WAY = Integer.MAX_VALUE;
        private static final long MOST_WAYS = 1000000000000000L;
        private final int[] wides = new int[MOST_WORDS];
        // Of the first so many words, in the slots that were gone through.
        private final int[] leastOf = new int[MOST_WORDS + 1];
        private final long[] waysOf = new long[MOST_WORDS + 1];
        int least = 0;
        long many = 0;

        void find(Setting setting) {
            int n = setting.placedWides(wides);
            Arrays.fill(leastOf, NO_WAY);
            Arrays.fill(waysOf, 0L);
            leastOf[0] = 0;
            waysOf[0] = 1;
            for (int slot = 0; slot < setting.slots.total; slot++) {
                // Downwards, as what stands below must be without this slot yet.
                for (int end = n; end > 0; end--) {
                    takeUpTo(end, n, setting, slot);
                }
            }
            least = leastOf[n];
            many = waysOf[n];
        }

        /** This slot takes the words from some one on up to end. */
        private void takeUpTo(int end, int n, Setting setting, int slot) {
            int taken = 0;
            for (int from = end - 1; from >= 0; from--) {
                taken += wides[from];
                int left = setting.slots.leftOver(slot, taken, end - from);
                if (left < 0) {
                    return;
                }
                if (leastOf[from] != NO_WAY) {
                    int ragged = leastOf[from] + (end == n ? 0 : left * left);
                    offer(end, ragged, waysOf[from]);
                }
            }
        }

        private void offer(int end, int ragged, long ways) {
            if (ragged < leastOf[end]) {
                leastOf[end] = ragged;
                waysOf[end] = ways;
            } else if (ragged == leastOf[end]) {
                waysOf[end] = Math.min(MOST_WAYS, waysOf[end] + ways);
            }
        }
    }

    /** Reads a text, token by token; behind a fault no token fits any more, so all calls run out. */
    private static final class Reader {
        private static final int AT_END = 0;
        private static final int NO_TOKEN = 1;
        private static final int LETTERS = 'a';
        private static final int NUMBER = '0';
        private static final String SIGNS = ";:+-*()[]=<>";
        private static final int DEEPEST = 6;
        private static final int LONGEST_WORD = 12;
        private static final int MOST_DIGITS = 3;

        private final byte[] text;
        private int length = 0;
        private int token = AT_END;
        private int start = 0;
        private int end = 0;
        private int value = 0;
        private Page page;
        private Law law;
        int fault = 0;
        int faultAt = NONE;

        Reader(byte[] tape, Page first) {
            text = tape;
            page = first;
            law = first.wideLaw;
        }

        /** The first n bytes of the tape; n is no more than it can have. */
        void read(int n, Page into) {
            length = n;
            end = 0;
            fault = 0;
            faultAt = NONE;
            page = into;
            page.clear();
            next();
            head();
            for (int i = 0; i < MOST_BYTES && fault == 0 && token != AT_END; i++) {
                line();
                sign(';');
                page.told++;
            }
        }

        private void fail(int kind) {
            if (fault == 0) {
                fault = kind;
                faultAt = start;
                token = NO_TOKEN;
            }
        }

        private static boolean isLetter(int c) {
            return c >= 'a' && c <= 'z';
        }

        private static boolean isDigit(int c) {
            return c >= '0' && c <= '9';
        }

        private void next() {
            if (fault != 0) {
                return;
            }
            start = end;
            while (start < length && (text[start] == 10 || text[start] == 32)) {
                start++;
            }
            end = start;
            if (start >= length) {
                token = AT_END;
            } else if (isLetter(text[start])) {
                token = LETTERS;
                while (end < length && isLetter(text[end])) {
                    end++;
                }
            } else if (isDigit(text[start])) {
                token = NUMBER;
                value = 0;
                while (end < length && isDigit(text[end])) {
                    value = value * 10 + text[end] - '0';
                    end++;
                }
                if (end - start > MOST_DIGITS) {
                    fail(1);
                }
            } else {
                token = text[start];
                end = start + 1;
                if (SIGNS.indexOf((char) (token & 255)) < 0) {
                    fail(1);
                }
            }
        }

        private boolean isWord(String word) {
            if (token != LETTERS || end - start != word.length()) {
                return false;
            }
            for (int i = 0; i < word.length(); i++) {
                if (text[start + i] != word.charAt(i)) {
                    return false;
                }
            }
            return true;
        }

        private void sign(int which) {
            if (token != which) {
                fail(2);
            }
            next();
        }

        private void name(String word) {
            if (!isWord(word)) {
                fail(2);
            }
            next();
        }

        private int number(int least, int most) {
            if (token != NUMBER) {
                fail(2);
            } else if (value < least || value > most) {
                fail(3);
            }
            int told = value;
            next();
            return told;
        }

        private void head() {
            name("page");
            name("wide");
            page.wide = number(LEAST_WIDE, MOST_WIDE);
            name("lines");
            page.lines = number(1, MOST_LINES);
            name("high");
            page.high = number(1, 20);
            name("least");
            page.least = number(1, 50);
            name("ink");
            page.start.ink = number(0, INKS - 1);
            sign(';');
            page.told = 1;
        }

        private void line() {
            if (isWord("box")) {
                outline(BOX);
            } else if (isWord("circle")) {
                outline(CIRCLE);
            } else if (isWord("wedge")) {
                outline(WEDGE);
            } else if (isWord("tie")) {
                tieLine();
            } else if (isWord("words")) {
                wordsLine();
            } else if (isWord("wide")) {
                lawLine(page.wideLaw);
            } else if (isWord("gap")) {
                lawLine(page.gapLaw);
            } else {
                fail(2);
            }
        }

        private void outline(int kind) {
            int s = page.shapes;
            if (s >= MOST_SHAPES) {
                fail(4);
                return;
            }
            next();
            page.kind[s] = kind;
            page.start.x[s] = number(0, MOST_X);
            page.start.y[s] = number(0, MOST_Y);
            page.across[s] = number(1, kind == BOX ? 200 : 100);
            page.tall[s] = kind == CIRCLE ? 0 : number(1, 200);
            page.shapes++;
        }

        private void tieLine() {
            next();
            int s = number(0, page.shapes - 1);
            int w = number(0, MOST_WORDS - 1);
            if (fault == 0 && s >= 0 && s < MOST_SHAPES) {
                page.start.tie[s] = w;
            }
        }

        private void wordsLine() {
            next();
            for (int i = 0; i < MOST_BYTES && token == LETTERS; i++) {
                int w = page.words;
                if (end - start > LONGEST_WORD) {
                    fail(3);
                } else if (w >= MOST_WORDS) {
                    fail(4);
                } else {
                    page.letters[w] = end - start;
                    page.first[w] = text[start] - 'a' + 1;
                    page.words++;
                }
                next();
            }
        }

        private void lawLine(Law which) {
            law = which;
            law.length = 0;
            next();
            sign(':');
            sum(0);
        }

        // depth: within how many of not [ ( if this stands.

        private void sum(int depth) {
            term(depth);
            for (int i = 0; i < MOST_BYTES && (token == '+' || token == '-'); i++) {
                int op = token == '+' ? Law.ADD : Law.MINUS;
                next();
                term(depth);
                law.add(op);
            }
        }

        private void term(int depth) {
            atom(depth);
            for (int i = 0; i < MOST_BYTES && token == '*'; i++) {
                next();
                atom(depth);
                law.add(Law.TIMES);
            }
        }

        private void atom(int depth) {
            if (token == NUMBER) {
                law.add(value);
                next();
            } else if (token == '(') {
                if (goesIn(depth)) {
                    sum(depth + 1);
                    sign(')');
                }
            } else if (isWord("if")) {
                if (goesIn(depth)) {
                    choice(depth + 1);
                }
            } else {
                law.add(about());
                next();
            }
        }

        /** Takes the token that opens something, if that isn't too deep. */
        private boolean goesIn(int depth) {
            if (depth >= DEEPEST) {
                fail(4);
                return false;
            }
            next();
            return true;
        }

        private void choice(int depth) {
            truth(depth);
            name("then");
            sum(depth);
            name("else");
            sum(depth);
            name("end");
            law.add(Law.CHOOSE);
        }

        private int about() {
            boolean ofWord = law == page.wideLaw;
            if (isWord("ink")) {
                return Law.OF_INK;
            }
            if (ofWord && isWord("size")) {
                return Law.OF_SIZE;
            }
            if (ofWord && isWord("word")) {
                return Law.OF_WORD;
            }
            if (ofWord && isWord("first")) {
                return Law.OF_FIRST;
            }
            if (!ofWord && isWord("shape")) {
                return Law.OF_SHAPE;
            }
            if (!ofWord && isWord("line")) {
                return Law.OF_LINE;
            }
            fail(2);
            return 0;
        }

        private void truth(int depth) {
            both(depth);
            for (int i = 0; i < MOST_BYTES && isWord("or"); i++) {
                next();
                both(depth);
                law.add(Law.OR);
            }
        }

        private void both(int depth) {
            unit(depth);
            for (int i = 0; i < MOST_BYTES && isWord("and"); i++) {
                next();
                unit(depth);
                law.add(Law.AND);
            }
        }

        private void unit(int depth) {
            if (isWord("not")) {
                if (goesIn(depth)) {
                    unit(depth + 1);
                    law.add(Law.NOT);
                }
            } else if (token == '[') {
                if (goesIn(depth)) {
                    truth(depth + 1);
                    sign(']');
                }
            } else {
                sum(depth);
                int op = token == '=' ? Law.IS : token == '<' ? Law.BELOW : token == '>' ? Law.ABOVE : 0;
                if (op == 0) {
                    fail(2);
                }
                next();
                sum(depth);
                law.add(op);
            }
        }
    }
}
