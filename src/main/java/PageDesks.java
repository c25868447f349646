/**
 * Desks with few frames, to which pages are asked for one behind another.
 * What each call answers is told in the document, promises 1 to 34.
 */
public final class PageDesks {
    public static final int UNKNOWN = -1, OUTSIDE = -2, STATE = -3, FULL = -4, NONE = -9;
    public static final long LOST = Long.MIN_VALUE;

    private static final int NO_FAULT = 0, NULL_FAULT = 1, CAST_FAULT = 2, INDEX_FAULT = 3, SIZE_FAULT = 4;
    private static final int LESS_FAULT = -10, LESS_FIRST_FAULT = -100;
    private static final int QUEUE = 0, CHANCE = 1, RECENT = 2, KINDS = 3;
    private static final int PAGES = 8, MOST_DESKS = 4, MOST_FRAMES = 5, MOST_ASKS = 24;
    private static final int MOST_TALE = 20, MOST_READINGS = 8, MOST_ODDS = 3;
    private static final int SHEETS = 4, LANES = 3, MOST_CELLS = 60;

    private final Sheet[] sheets = new Sheet[SHEETS];
    private final Text text = new Text();
    private final Queue[] desks = new Queue[MOST_DESKS];
    // One desk of each kind to try things on, so that no call has to make any.
    private final Queue[] trials = new Queue[KINDS];
    private final Line asks = new Line();
    private final Latest latestDesk = new Latest();
    private final Readings readings = new Readings();
    private final Trace left = new Trace();
    private int deskCount;
    private int came;
    private int latestFault;

    public PageDesks() {
        for (int k = 0; k < SHEETS; k++) {
            sheets[k] = new Sheet();
        }
        for (int kind = 0; kind < KINDS; kind++) {
            trials[kind] = newDesk(kind);
        }
    }

    // ---- 1 the room

    public int room(int sheet, int lane, int i, int n) {
        if (!isSheet(sheet)) {
            return refused(UNKNOWN);
        }
        if (!isWithin(lane, 0, LANES - 1)) {
            return refused(OUTSIDE);
        }
        Sheet row = sheets[sheet];
        int found = row.faultAs(lane);
        if (found == NO_FAULT && n < 0) {
            found = SIZE_FAULT;
        }
        if (found == NO_FAULT && !row.has(i, n)) {
            found = INDEX_FAULT;
        }
        if (found != NO_FAULT) {
            return faulted(found);
        }
        latestFault = NO_FAULT;
        int place = text.firstFault(row, i, n);
        if (place != Text.NOWHERE) {
            return LESS_FIRST_FAULT - place;
        }
        furnish();
        return deskCount;
    }

    public int ofDesk(int k, int what) {
        if (!isDesk(k)) {
            return UNKNOWN;
        }
        Queue desk = desks[k];
        switch (what) {
            case 0: return desk.kind();
            case 1: return desk.frames;
            case 2: return desk.pages();
            case 3: return desk.missed;
            case 4: return desk.nextToGo();
            case 5: return desk.used;
            default: return OUTSIDE;
        }
    }

    public int lies(int k, int p) {
        if (!isDesk(k)) {
            return UNKNOWN;
        }
        if (!isWithin(p, 0, MOST_FRAMES - 1)) {
            return OUTSIDE;
        }
        return p < desks[k].lying ? desks[k].row[p] : NONE;
    }

    public int line(int i) {
        return asks.has(i) ? asks.pages[i] : UNKNOWN;
    }

    public int build(int k, int v) {
        if (!isDesk(k)) {
            return UNKNOWN;
        }
        if (!isWithin(v, 1, MOST_FRAMES)) {
            return OUTSIDE;
        }
        Queue desk = desks[k];
        int had = desk.frames;
        desk.clear(v);
        for (int i = 0; i < came; i++) {
            desk.serve(asks.pages[i]);
        }
        return had;
    }

    // ---- 2 asks

    public int come(int n) {
        if (!isWithin(n, 1, MOST_ASKS)) {
            return OUTSIDE;
        }
        if (!hasRoom() || n > asks.count - came) {
            return STATE;
        }
        int missed = 0;
        for (int i = came; i < came + n; i++) {
            missed += missesOfAll(asks.pages[i]);
        }
        came += n;
        return missed;
    }

    public int anew() {
        if (!hasRoom()) {
            return STATE;
        }
        int had = came;
        came = 0;
        for (int k = 0; k < deskCount; k++) {
            desks[k].clear(desks[k].frames);
        }
        return had;
    }

    public int ask(int page) {
        if (!hasRoom()) {
            return STATE;
        }
        if (!isPage(page)) {
            return OUTSIDE;
        }
        if (asks.count >= MOST_ASKS) {
            return FULL;
        }
        asks.append(page);
        return asks.count;
    }

    public int drop() {
        if (!hasRoom() || came == asks.count || asks.count == 1) {
            return STATE;
        }
        readings.count = 0;
        asks.count--;
        return asks.pages[asks.count];
    }

    public int tale(int sheet, int lane, int i, int n, int k, int what) {
        if (!isSheet(sheet) || !isDesk(k)) {
            return refused(UNKNOWN);
        }
        if (!isWithin(lane, 0, LANES - 1) || !isWithin(n, 0, MOST_TALE) || !isWithin(what, 0, 4)) {
            return refused(OUTSIDE);
        }
        Sheet row = sheets[sheet];
        int found = row.faultAs(lane);
        if (found == NO_FAULT && !row.has(i, n)) {
            found = INDEX_FAULT;
        }
        if (found != NO_FAULT) {
            return faulted(found);
        }
        latestFault = NO_FAULT;
        for (int j = i; j < i + n; j++) {
            if (!isPage(row.cells[j])) {
                return OUTSIDE;
            }
        }
        return toldOn(desks[k], row, i, n, what);
    }

    // ---- 3 how much is missed

    public int misses(int k, int f) {
        if (!isDesk(k)) {
            return UNKNOWN;
        }
        return isWithin(f, 1, PAGES) ? missesBy(k, f) : OUTSIDE;
    }

    public int odd(int k) {
        if (!isDesk(k)) {
            return UNKNOWN;
        }
        int fewer = missesBy(k, 1);
        for (int f = 1; f < PAGES; f++) {
            int more = missesBy(k, f + 1);
            if (fewer < more) {
                return f;
            }
            fewer = more;
        }
        return NONE;
    }

    public int need(int k, int v) {
        if (!isDesk(k)) {
            return UNKNOWN;
        }
        if (!isWithin(v, 0, MOST_ASKS)) {
            return OUTSIDE;
        }
        for (int f = 1; f <= PAGES; f++) {
            if (missesBy(k, f) <= v) {
                return f;
            }
        }
        return NONE;
    }

    public int fewest(int f) {
        if (!hasRoom()) {
            return STATE;
        }
        if (!isWithin(f, 1, PAGES)) {
            return OUTSIDE;
        }
        // Whoever lets the page go that is asked again the latest misses the fewest.
        latestDesk.follow(asks, f);
        return latestDesk.missed;
    }

    public int latest(int f, int i) {
        if (!asks.has(i)) {
            return UNKNOWN;
        }
        if (!isWithin(f, 1, PAGES)) {
            return OUTSIDE;
        }
        latestDesk.follow(asks, f);
        return latestDesk.goes[i];
    }

    public int depth(int i) {
        if (!asks.has(i)) {
            return UNKNOWN;
        }
        int ahead = asks.sameAhead(i);
        return ahead == NONE ? NONE : Integer.bitCount(asks.pagesOf(ahead, i));
    }

    public int work(int i, int w) {
        if (!asks.has(i)) {
            return UNKNOWN;
        }
        if (!isWithin(w, 1, MOST_ASKS)) {
            return OUTSIDE;
        }
        return asks.pagesOf(Math.max(0, i - w + 1), i);
    }

    // ---- 4 what lay there

    public int reading(int k, int i, int hit) {
        if (!isDesk(k) || !asks.has(i)) {
            return UNKNOWN;
        }
        if (!isWithin(hit, 0, 1)) {
            return OUTSIDE;
        }
        if (readings.count >= MOST_READINGS) {
            return FULL;
        }
        readings.append(k, i, hit);
        return readings.count - 1;
    }

    public int back(int k) {
        if (!isWithin(k, 0, readings.count)) {
            return OUTSIDE;
        }
        readings.count -= k;
        return readings.count;
    }

    public int sizes(int k) {
        if (!isDesk(k)) {
            return UNKNOWN;
        }
        int set = 0;
        if (othersAgree(k)) {
            for (int f = 1; f <= MOST_FRAMES; f++) {
                set |= readings.agree(k, hitsOf(desks[k].kind(), f)) ? 1 << f : 0;
            }
        }
        return set;
    }

    public int kinds(int k) {
        if (!isDesk(k)) {
            return UNKNOWN;
        }
        int set = 0;
        if (othersAgree(k)) {
            for (int kind = 0; kind < KINDS; kind++) {
                set |= readings.agree(k, hitsOf(kind, desks[k].frames)) ? 1 << kind : 0;
            }
        }
        return set;
    }

    public long odds(int k, int n, int which) {
        if (!isDesk(k) || !isWithin(n, 0, MOST_ODDS) || !isWithin(which, 0, 1)) {
            return LOST;
        }
        // As long as all are hits, the same pages lie there: each ask has the same share.
        long upper = 1;
        long lower = 1;
        for (int i = 0; i < n; i++) {
            upper *= desks[k].lying;
            lower *= PAGES;
        }
        long shared = commonMeasure(upper, lower);
        return (which == 0 ? upper : lower) / shared;
    }

    // ---- 5 sheets, parts

    public int sheet(int k, int lane, int n) {
        if (!isSheet(k)) {
            return refused(UNKNOWN);
        }
        if (!isWithin(lane, 0, LANES - 1) || n > MOST_CELLS) {
            return refused(OUTSIDE);
        }
        if (n < 0) {
            return faulted(SIZE_FAULT);
        }
        latestFault = NO_FAULT;
        sheets[k].renew(lane, n);
        return 1;
    }

    public int lose(int k) {
        if (!isSheet(k)) {
            return UNKNOWN;
        }
        int had = sheets[k].isNothing() ? 0 : 1;
        sheets[k].lane = Sheet.NOTHING;
        return had;
    }

    public int put(int k, int i, int v) {
        if (!isSheet(k)) {
            return refused(UNKNOWN);
        }
        if (sheets[k].isNothing()) {
            return faulted(NULL_FAULT);
        }
        if (!sheets[k].has(i, 1)) {
            return faulted(INDEX_FAULT);
        }
        latestFault = NO_FAULT;
        sheets[k].cells[i] = sheets[k].cut(v);
        return 1;
    }

    public long cell(int k, int i, int lane) {
        latestFault = NO_FAULT;
        if (!isSheet(k) || !isWithin(lane, 0, LANES - 1)) {
            return LOST;
        }
        latestFault = sheets[k].faultAs(lane);
        if (latestFault == NO_FAULT && !sheets[k].has(i, 1)) {
            latestFault = INDEX_FAULT;
        }
        return latestFault == NO_FAULT ? sheets[k].cells[i] : LOST;
    }

    public int copy(int k, int i, int other, int j, int n) {
        if (!isSheet(k) || !isSheet(other)) {
            return refused(UNKNOWN);
        }
        Sheet from = sheets[k];
        Sheet to = sheets[other];
        if (from.isNothing() || to.isNothing()) {
            return faulted(NULL_FAULT);
        }
        if (from.lane != to.lane) {
            return faulted(CAST_FAULT);
        }
        if (!from.has(i, n) || !to.has(j, n)) {
            return faulted(INDEX_FAULT);
        }
        latestFault = NO_FAULT;
        System.arraycopy(from.cells, i, to.cells, j, n);
        return n;
    }

    public int tell(int k) {
        return isDesk(k) ? desks[k].telling(left) : UNKNOWN;
    }

    public int tally(int k) {
        return isDesk(k) ? desks[k].counted(left) : UNKNOWN;
    }

    public int as(int k, int kind) {
        if (!isDesk(k)) {
            return refused(UNKNOWN);
        }
        if (!isWithin(kind, 0, KINDS - 1)) {
            return refused(OUTSIDE);
        }
        if (!isOfKind(desks[k], kind)) {
            return faulted(CAST_FAULT);
        }
        latestFault = NO_FAULT;
        return 1;
    }

    public int trace() {
        return left.number;
    }

    public int fault() {
        return latestFault;
    }

    public int many(int what) {
        switch (what) {
            case 0: return deskCount;
            case 1: return asks.count;
            case 2: return came;
            case 3: return Integer.bitCount(asks.pagesOf(0, asks.count - 1));
            case 4: return readings.count;
            default: return OUTSIDE;
        }
    }

    // ---- what the calls share

    private static boolean isWithin(int number, int least, int most) {
        return number >= least && number <= most;
    }

    private static boolean isPage(int number) {
        return isWithin(number, 0, PAGES - 1);
    }

    private static boolean isSheet(int k) {
        return isWithin(k, 0, SHEETS - 1);
    }

    private boolean isDesk(int k) {
        return isWithin(k, 0, deskCount - 1);
    }

    private boolean hasRoom() {
        return deskCount > 0;
    }

    private int refused(int why) {
        latestFault = NO_FAULT;
        return why;
    }

    private int faulted(int which) {
        latestFault = which;
        return LESS_FAULT - which;
    }

    private static Queue newDesk(int kind) {
        switch (kind) {
            case CHANCE: return new Chance();
            case RECENT: return new Recent();
            default: return new Queue();
        }
    }

    private static boolean isOfKind(Queue desk, int kind) {
        switch (kind) {
            case QUEUE: return true;
            case CHANCE: return desk instanceof Chance;
            default: return desk instanceof Recent;
        }
    }

    private void furnish() {
        deskCount = text.desks;
        for (int k = 0; k < deskCount; k++) {
            desks[k] = newDesk(text.kinds[k]);
            desks[k].clear(text.frames[k]);
        }
        asks.become(text.pages, text.asks);
        came = 0;
        readings.count = 0;
    }

    private int missesOfAll(int page) {
        int missed = 0;
        for (int k = 0; k < deskCount; k++) {
            missed += desks[k].serve(page) ? 0 : 1;
        }
        return missed;
    }

    private int toldOn(Queue desk, Sheet row, int from, int n, int what) {
        Queue trial = trials[desk.kind()];
        trial.become(desk);
        int first = NONE;
        for (int j = 0; j < n; j++) {
            boolean hit = trial.serve(row.cells[from + j]);
            if (!hit && first == NONE) {
                first = j;
            }
        }
        switch (what) {
            case 0: return trial.missed - desk.missed;
            case 1: return trial.pages();
            case 2: return trial.nextToGo();
            case 3: return trial.used;
            default: return first;
        }
    }

    private int missesBy(int k, int f) {
        return asks.count - Integer.bitCount(hitsOf(desks[k].kind(), f));
    }

    /** Which asks of the whole line are hits on a desk of this kind, as a set. */
    private int hitsOf(int kind, int f) {
        Queue trial = trials[kind];
        trial.clear(f);
        int hits = 0;
        for (int i = 0; i < asks.count; i++) {
            hits |= trial.serve(asks.pages[i]) ? 1 << i : 0;
        }
        return hits;
    }

    private boolean othersAgree(int k) {
        boolean agreed = true;
        for (int other = 0; other < deskCount && agreed; other++) {
            Queue desk = desks[other];
            agreed = other == k || readings.agree(other, hitsOf(desk.kind(), desk.frames));
        }
        return agreed;
    }

    /** The greatest number that measures both; the lower one is above 0. */
    private static long commonMeasure(long upper, long lower) {
        long rest = upper;
        long measure = lower;
        // Each round at least halves one of two numbers that are at most 512.
        for (int round = 0; round < 64 && rest > 0; round++) {
            long next = measure % rest;
            measure = rest;
            rest = next;
        }
        return Math.max(1, measure);
    }

    /** The number that bodies leave behind as they begin. */
    private static final class Trace {
        int number;

        void leave(int body) {
            number = 31 * number + body;
        }
    }

    /** A sheet: nothing, or a row of numbers of a lane. */
    private static final class Sheet {
        static final int NOTHING = -1;
        static final int BYTES = 0, SHORTS = 1;

        final int[] cells = new int[MOST_CELLS];
        int lane = NOTHING;
        int length;

        boolean isNothing() {
            return lane == NOTHING;
        }

        void renew(int newLane, int newLength) {
            lane = newLane;
            length = newLength;
            for (int i = 0; i < MOST_CELLS; i++) {
                cells[i] = 0;
            }
        }

        int cut(int number) {
            switch (lane) {
                case BYTES: return (byte) number;
                case SHORTS: return (short) number;
                default: return number;
            }
        }

        /** What it comes to, if this is taken as a row of a lane. */
        int faultAs(int wanted) {
            if (isNothing()) {
                return NULL_FAULT;
            }
            return lane == wanted ? NO_FAULT : CAST_FAULT;
        }

        boolean has(int from, int n) {
            return isWithin(from, 0, length) && isWithin(n, 0, length - from);
        }
    }

    /** The line of asks. */
    private static final class Line {
        final int[] pages = new int[MOST_ASKS];
        int count;

        void become(int[] others, int howMany) {
            System.arraycopy(others, 0, pages, 0, howMany);
            count = howMany;
        }

        void append(int page) {
            pages[count] = page;
            count++;
        }

        boolean has(int i) {
            return isWithin(i, 0, count - 1);
        }

        /** The pages of the asks from one to another, both too, as a set. */
        int pagesOf(int from, int to) {
            int set = 0;
            for (int i = from; i <= to; i++) {
                set |= 1 << pages[i];
            }
            return set;
        }

        int sameAhead(int i) {
            for (int j = i - 1; j >= 0; j--) {
                if (pages[j] == pages[i]) {
                    return j;
                }
            }
            return NONE;
        }

        /** The next ask of a page behind an ask; how many there are, if there is none. */
        int nextOf(int page, int behind) {
            int j = behind + 1;
            while (j < count && pages[j] != page) {
                j++;
            }
            return j;
        }
    }

    /** A desk that knows the line, and lets the page go that is asked again the latest. */
    private static final class Latest {
        final int[] goes = new int[MOST_ASKS];
        int missed;

        void follow(Line asks, int frames) {
            int lying = 0;
            missed = 0;
            for (int i = 0; i < asks.count; i++) {
                int asked = 1 << asks.pages[i];
                goes[i] = NONE;
                if ((lying & asked) == 0) {
                    missed++;
                    if (Integer.bitCount(lying) == frames) {
                        goes[i] = latestOf(asks, lying, i);
                        lying &= ~(1 << goes[i]);
                    }
                    lying |= asked;
                }
            }
        }

        private static int latestOf(Line asks, int lying, int i) {
            int latestPage = 0;
            int latestNext = -1;
            for (int page = 0; page < PAGES; page++) {
                int next = asks.nextOf(page, i);
                if ((lying & 1 << page) != 0 && next > latestNext) {
                    latestPage = page;
                    latestNext = next;
                }
            }
            return latestPage;
        }
    }

    /** What was seen: asks of the line that were hits or misses on desks. */
    private static final class Readings {
        final int[] ofDesks = new int[MOST_READINGS];
        final int[] ofAsks = new int[MOST_READINGS];
        final int[] hits = new int[MOST_READINGS];
        int count;

        void append(int desk, int i, int hit) {
            ofDesks[count] = desk;
            ofAsks[count] = i;
            hits[count] = hit;
            count++;
        }

        /** Whether all readings of a desk are so, if it has hits by this set. */
        boolean agree(int desk, int hitSet) {
            for (int r = 0; r < count; r++) {
                if (ofDesks[r] == desk && (hitSet >> ofAsks[r] & 1) != hits[r]) {
                    return false;
                }
            }
            return true;
        }
    }

    /** A text that tells a room, code by code. */
    private static final class Text {
        static final int NOWHERE = -1;
        static final int AT_HEAD = 0, AT_DESK = 1, AT_KIND = 2, AT_FRAMES = 3, BEHIND_DESK = 4, AT_ASKS = 5;

        final int[] kinds = new int[MOST_DESKS];
        final int[] frames = new int[MOST_DESKS];
        final int[] pages = new int[MOST_ASKS];
        int desks;
        int asks;
        private int at;

        /** The place of the first fault in n cells of a row; NOWHERE: the text is taken. */
        int firstFault(Sheet row, int from, int n) {
            desks = 0;
            asks = 0;
            at = AT_HEAD;
            for (int place = 0; place < n; place++) {
                if (!goesOn(row.cells[from + place])) {
                    return place;
                }
            }
            return at == AT_ASKS && asks > 0 ? NOWHERE : n;
        }

        private boolean goesOn(int code) {
            switch (at) {
                case AT_HEAD: return goesTo(AT_DESK, code == 'd');
                case AT_DESK: return goesTo(AT_KIND, code == ';');
                case AT_KIND: return takesKind(code);
                case AT_FRAMES: return takesFrames(code);
                case BEHIND_DESK: return goesBehindDesk(code);
                default: return takesAsk(code);
            }
        }

        private boolean goesTo(int next, boolean good) {
            at = next;
            return good;
        }

        private boolean takesKind(int code) {
            int kind = code == 'q' ? QUEUE : code == 'c' ? CHANCE : code == 'r' ? RECENT : NONE;
            kinds[desks] = kind;
            return goesTo(AT_FRAMES, kind != NONE);
        }

        private boolean takesFrames(int code) {
            frames[desks] = code - '0';
            desks++;
            return goesTo(BEHIND_DESK, isWithin(code, '1', '0' + MOST_FRAMES));
        }

        private boolean goesBehindDesk(int code) {
            if (code == ';') {
                return goesTo(AT_KIND, desks < MOST_DESKS);
            }
            return goesTo(AT_ASKS, code == ',');
        }

        private boolean takesAsk(int code) {
            if (asks >= MOST_ASKS || !isPage(code - 'a')) {
                return false;
            }
            pages[asks] = code - 'a';
            asks++;
            return true;
        }
    }

    /** A desk from which the page goes that came first. */
    private static class Queue {
        final int[] row = new int[PAGES];
        int frames = 1;
        int lying;
        int used;
        int missed;

        int kind() {
            return QUEUE;
        }

        void clear(int newFrames) {
            frames = newFrames;
            lying = 0;
            used = 0;
            missed = 0;
        }

        void become(Queue other) {
            System.arraycopy(other.row, 0, row, 0, PAGES);
            frames = other.frames;
            lying = other.lying;
            used = other.used;
            missed = other.missed;
        }

        /** An ask of a page comes: whether it is a hit. */
        boolean serve(int page) {
            int place = placeOf(page);
            if (place != NONE) {
                use(place);
                return true;
            }
            missed++;
            if (lying >= frames) {
                spareUsed();
                letFirstGo();
            }
            row[lying] = page;
            lying++;
            return false;
        }

        /** What a hit changes. */
        void use(int place) {
        }

        /** What is done ahead of the first one's going. */
        void spareUsed() {
        }

        /** The place of the one that would go, if none were free. */
        int placeToGo() {
            return 0;
        }

        int nextToGo() {
            return lying < frames ? NONE : row[placeToGo()];
        }

        int pages() {
            int set = 0;
            for (int p = 0; p < lying; p++) {
                set |= 1 << row[p];
            }
            return set;
        }

        int telling(Trace trace) {
            return queueTelling(trace);
        }

        int counted(Trace trace) {
            trace.leave(4);
            return missed;
        }

        // Apart from telling, so that a kind two below can come to it past the one between.
        final int queueTelling(Trace trace) {
            trace.leave(1);
            return frames;
        }

        final int placeOf(int page) {
            for (int p = 0; p < lying; p++) {
                if (row[p] == page) {
                    return p;
                }
            }
            return NONE;
        }

        final boolean isUsed(int place) {
            return (used >> row[place] & 1) == 1;
        }

        final void lieBehindAll(int place) {
            int page = row[place];
            for (int p = place; p < lying - 1; p++) {
                row[p] = row[p + 1];
            }
            row[lying - 1] = page;
        }

        private void letFirstGo() {
            used &= ~(1 << row[0]);
            lieBehindAll(0);
            lying--;
        }
    }

    /** A queue that spares once whoever was used since. */
    private static class Chance extends Queue {
        int kind() {
            return CHANCE;
        }

        void use(int place) {
            used |= 1 << row[place];
        }

        void spareUsed() {
            // Each turn takes one use away, so that there are no more turns than pages.
            for (int turn = 0; turn < lying && isUsed(0); turn++) {
                used &= ~(1 << row[0]);
                lieBehindAll(0);
            }
        }

        int placeToGo() {
            for (int p = 0; p < lying; p++) {
                if (!isUsed(p)) {
                    return p;
                }
            }
            return 0;
        }

        int telling(Trace trace) {
            trace.leave(2);
            return queueTelling(trace) + 100;
        }
    }

    /** A chance from which the page goes that was used longest ago. */
    private static final class Recent extends Chance {
        int kind() {
            return RECENT;
        }

        void use(int place) {
            super.use(place);
            lieBehindAll(place);
        }

        // From a recent one goes as from a queue: what chance does for the used ones is undone here.
        void spareUsed() {
        }

        int placeToGo() {
            return 0;
        }

        int telling(Trace trace) {
            trace.leave(3);
            return super.telling(trace) + queueTelling(trace);
        }

        int counted(Trace trace) {
            trace.leave(5);
            return 60;
        }
    }
}
