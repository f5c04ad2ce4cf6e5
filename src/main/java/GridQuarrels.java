/**
 * Cattle grids for quarrels: parishes joined by roads with grids, quarrels that walk to the hay,
 * grow, starve and die; what is done to them, undone and foretold. The document is ../shared/DOC.md.
 *
 * Every row the class ever needs is made in the constructor, so no call makes an object.
 */
public final class GridQuarrels {
    public static final int NONE = -1000000, BAD = -1000001, STATE = -1000002, FULL = -1000003;

    private static final int NULL = 1, PLACE = 2, KIND = 3, SIZE = 4, STORE = 5;
    private static final int FINDINGS = -1000010, FAULTS = -1000100;

    private static final int MOST_PARISHES = 7, MOST_ROADS = 7, MOST_QUARRELS = 5;
    private static final int MOST_HAY = 99, MOST_SIZE = 9, MOST_GRID = 9, LAST_YEAR = 999;
    private static final int FAR = 60, NEAR = 30, MOST_TOLD = 12, MOST_SEED = 999999;
    private static final int IMAGES = 2;

    private static final int PLAIN = 1, THIN = 2, CALF = 3, BULL = 4, TAME = 5;
    /** By kinds: the kind that each of them is, too. Kind 0 is every quarrel. */
    private static final int[] ABOVE = {0, 0, 1, 1, 0, 4};

    private final Rows rows = new Rows();
    private final Reader reader = new Reader();
    private final Acts acts = new Acts();
    private final Seer seer = new Seer();
    private final County now = seer.now;
    private final Asker asker = new Asker();
    private final County[] images = new County[IMAGES];
    private int status;

    public GridQuarrels() {
        for (int k = 0; k < IMAGES; k++) {
            images[k] = new County();
        }
    }

    // ---- rows

    public int row(int row, int lane, int n) {
        if (!rows.isRow(row) || !within(lane, 0, Rows.MOST_LANE) || n > Rows.MOST_ITEMS) {
            return BAD;
        }
        if (n < 0) {
            return found(SIZE);
        }
        rows.make(row, lane, n);
        return fine(n);
    }

    public int set(int row, int i, int v) {
        if (!rows.isRow(row)) {
            return BAD;
        }
        int finding = rows.findingOf(row, i, 1);
        if (finding != 0) {
            return found(finding);
        }
        return fine(rows.put(row, i, v));
    }

    public int copy(int a, int i, int b, int j, int n) {
        if (!rows.isRow(a) || !rows.isRow(b)) {
            return BAD;
        }
        int finding = rows.findingOfTwo(a, i, b, j, n);
        if (finding != 0) {
            return found(finding);
        }
        rows.move(a, i, b, j, n);
        return fine(n);
    }

    public int drop(int row) {
        if (!rows.isRow(row)) {
            return BAD;
        }
        if (rows.isMissing(row)) {
            return found(NULL);
        }
        return fine(rows.remove(row));
    }

    // ---- what is told

    public int feed(int letter) {
        if (!within(letter, 0, 255)) {
            return BAD;
        }
        if (reader.isFull()) {
            return FULL;
        }
        return reader.take(letter);
    }

    public int county() {
        int place = reader.read();
        if (place != NONE) {
            return FAULTS - place;
        }
        now.become(reader.draft);
        acts.forget();
        return now.quarrels;
    }

    public int fault() {
        return reader.latestFault;
    }

    public int undo() {
        if (acts.kept == 0) {
            return STATE;
        }
        acts.takeBack(now);
        return acts.kept;
    }

    // ---- what is done

    public int years(int n) {
        if (!now.isTold()) {
            return STATE;
        }
        if (!within(n, 1, Acts.MOST)) {
            return BAD;
        }
        if (now.year + n > LAST_YEAR) {
            return FULL;
        }
        for (int year = 0; year < n; year++) {
            acts.keep(now);
            now.passYear();
        }
        return now.living();
    }

    public int hay(int parish, int n) {
        if (!now.isParish(parish) || !within(n, 1, 9)) {
            return BAD;
        }
        acts.keep(now);
        now.putHay(parish, n);
        return now.hay[parish];
    }

    public int grid(int road, int n) {
        if (!now.isRoad(road) || !within(n, 0, MOST_GRID)) {
            return BAD;
        }
        int before = now.grid[road];
        acts.keep(now);
        now.grid[road] = n;
        return before;
    }

    public int drive(int quarrel, int road) {
        if (!now.isQuarrel(quarrel) || !now.isRoad(road)) {
            return BAD;
        }
        int here = now.at[quarrel];
        if (now.isDead(quarrel) || !now.touches(road, here)) {
            return STATE;
        }
        acts.keep(now);
        now.at[quarrel] = now.farEnd(road, here);
        return now.at[quarrel];
    }

    public int grow(int quarrel, int n) {
        if (!now.isQuarrel(quarrel) || !within(n, 1, MOST_SIZE)) {
            return BAD;
        }
        if (now.isDead(quarrel)) {
            return STATE;
        }
        int before = now.size[quarrel];
        acts.keep(now);
        now.size[quarrel] = n;
        return before;
    }

    public int quarrel(int quarrel, int what) {
        if (!now.isQuarrel(quarrel)) {
            return BAD;
        }
        switch (what) {
            case 0: return now.at[quarrel];
            case 1: return now.size[quarrel];
            case 2: return now.brand[quarrel];
            case 3: return now.roadsOpenTo(quarrel);
            case 4: return now.nextPlace(quarrel);
            default: return BAD;
        }
    }

    public int road(int road, int what) {
        if (!now.isRoad(road)) {
            return BAD;
        }
        switch (what) {
            case 0: return now.one[road];
            case 1: return now.other[road];
            case 2: return now.grid[road];
            default: return BAD;
        }
    }

    public int parish(int parish, int what) {
        if (!now.isParish(parish)) {
            return BAD;
        }
        switch (what) {
            case 0: return now.hay[parish];
            case 1: return now.livingIn(parish);
            case 2: return now.roadsAt(parish);
            default: return BAD;
        }
    }

    // ---- foretold

    public int ahead(int quarrel, int n, int what) {
        if (!now.isQuarrel(quarrel) || !within(n, 0, FAR) || !within(what, 0, 1)) {
            return BAD;
        }
        seer.lookAhead(n);
        return what == 0 ? seer.trial.at[quarrel] : seer.trial.size[quarrel];
    }

    public int hayAhead(int parish, int n) {
        if (!now.isParish(parish) || !within(n, 0, FAR)) {
            return BAD;
        }
        seer.lookAhead(n);
        return seer.trial.hay[parish];
    }

    public int dies(int quarrel) {
        if (!now.isQuarrel(quarrel)) {
            return BAD;
        }
        seer.begin();
        return seer.yearsToDeath(quarrel);
    }

    public int comes(int quarrel, int parish) {
        if (!now.isQuarrel(quarrel) || !now.isParish(parish)) {
            return BAD;
        }
        return seer.yearsToParish(quarrel, parish);
    }

    public int meet(int quarrel, int other) {
        if (!now.isQuarrel(quarrel) || !now.isQuarrel(other) || quarrel == other) {
            return BAD;
        }
        return seer.yearsToMeeting(quarrel, other);
    }

    public int grazed(int n) {
        if (!now.isTold()) {
            return STATE;
        }
        if (!within(n, 1, FAR)) {
            return BAD;
        }
        seer.lookAhead(n);
        return seer.trial.grazedIn;
    }

    public int shuts(int parish, int n, int what) {
        if (!now.isParish(parish) || !within(n, 1, NEAR) || !within(what, 0, 1)) {
            return BAD;
        }
        return countOrBits(seer.fewestShut(parish, n), what);
    }

    public int lures(int quarrel, int parish, int n, int what) {
        if (!now.isQuarrel(quarrel) || !now.isParish(parish)) {
            return BAD;
        }
        if (!within(n, 1, NEAR) || !within(what, 0, 1)) {
            return BAD;
        }
        return countOrBits(seer.fewestLures(quarrel, parish, n), what);
    }

    public int starve(int quarrel, int what) {
        if (!now.isQuarrel(quarrel) || !within(what, 0, 1)) {
            return BAD;
        }
        int parish = seer.worstLoss(quarrel);
        if (what == 0 || parish == NONE) {
            return parish;
        }
        return seer.deathWithout(quarrel, parish);
    }

    public int way(int quarrel, int parish) {
        if (!now.isQuarrel(quarrel) || !now.isParish(parish)) {
            return BAD;
        }
        if (now.isDead(quarrel)) {
            return STATE;
        }
        return now.roadsTo(quarrel, parish);
    }

    public int reach(int quarrel) {
        if (!now.isQuarrel(quarrel)) {
            return BAD;
        }
        if (now.isDead(quarrel)) {
            return STATE;
        }
        return now.allReached(quarrel);
    }

    public int home() {
        if (!now.isTold()) {
            return STATE;
        }
        return now.atTheirBrands();
    }

    public int fed(int n, int what) {
        if (!now.isTold()) {
            return STATE;
        }
        if (!within(n, 1, FAR) || !within(what, 0, 1)) {
            return BAD;
        }
        seer.lookAhead(n);
        int first = seer.trial.mostMeals();
        return what == 0 ? first : seer.trial.meals[first];
    }

    public int who(int quarrel, int which, int row, int i, int n) {
        if (!now.isQuarrel(quarrel) || !within(which, 0, 2)) {
            return BAD;
        }
        if (!rows.isRow(row) || !within(n, 1, MOST_TOLD)) {
            return BAD;
        }
        if (now.isDead(quarrel)) {
            return STATE;
        }
        int finding = rows.findingOf(row, i, n);
        if (finding != 0) {
            return found(finding);
        }
        rows.tell(row, i, n, seer.told);
        switch (which) {
            case 0: return fine(seer.kindsThatFit(quarrel, n));
            case 1: return fine(seer.sizesThatFit(quarrel, n));
            default: return fine(seer.placesThatFit(quarrel, n));
        }
    }

    public int grids(int road, int quarrel, int row, int i, int n) {
        if (!now.isRoad(road) || !now.isQuarrel(quarrel)) {
            return BAD;
        }
        if (!rows.isRow(row) || !within(n, 1, MOST_TOLD)) {
            return BAD;
        }
        int finding = rows.findingOf(row, i, n);
        if (finding != 0) {
            return found(finding);
        }
        rows.tell(row, i, n, seer.told);
        return fine(seer.gridsThatFit(road, quarrel, n));
    }

    public int which(int row, int i, int n) {
        if (!now.isTold()) {
            return STATE;
        }
        if (!rows.isRow(row) || !within(n, 1, MOST_TOLD)) {
            return BAD;
        }
        int finding = rows.findingOf(row, i, n);
        if (finding != 0) {
            return found(finding);
        }
        rows.tell(row, i, n, seer.told);
        return fine(seer.quarrelsThatFit(n));
    }

    public long snow(int quarrel, int parish, int n, int p, int what) {
        if (!now.isQuarrel(quarrel) || !now.isParish(parish)) {
            return BAD;
        }
        if (!within(n, 0, NEAR) || !within(p, 0, 10) || !within(what, 0, 1)) {
            return BAD;
        }
        long above = seer.snowyCases(quarrel, parish, n, p);
        long below = seer.allCases();
        long common = commonDivisor(above, below);
        if (common == 0) {
            return BAD;
        }
        return what == 0 ? above / common : below / common;
    }

    public int drawn(int n, int seed, int what) {
        if (!now.isTold()) {
            return STATE;
        }
        if (!within(n, 0, FAR) || !within(seed, 1, MOST_SEED) || !within(what, 0, 1)) {
            return BAD;
        }
        seer.draw(n, seed);
        return what == 0 ? seer.trial.living() : seer.trial.walks;
    }

    public int image(int k) {
        if (!within(k, 0, IMAGES - 1)) {
            return BAD;
        }
        if (!now.isTold()) {
            return STATE;
        }
        images[k].become(now);
        return 1;
    }

    public int restore(int k) {
        if (!within(k, 0, IMAGES - 1)) {
            return BAD;
        }
        if (!images[k].isTold()) {
            return STATE;
        }
        now.become(images[k]);
        acts.forget();
        return 1;
    }

    // ---- asked

    public int kind(int one) {
        return now.isQuarrel(one) ? now.kind[one] : BAD;
    }

    public int as(int one, int kind) {
        if (!now.isQuarrel(one) || !within(kind, 0, TAME)) {
            return BAD;
        }
        return isOneOf(now.kind[one], kind) ? fine(one) : found(KIND);
    }

    public int ask(int one, int what) {
        if (!now.isQuarrel(one) || !within(what, 0, 1)) {
            return BAD;
        }
        return asker.answer(now, one, what);
    }

    public int trace(int i) {
        return asker.leftAt(i);
    }

    public int count(int what) {
        switch (what) {
            case 0: return rows.present();
            case 1: return now.parishes;
            case 2: return now.roads;
            case 3: return now.quarrels;
            case 4: return now.year;
            case 5: return now.allHay();
            case 6: return acts.kept;
            case 7: return reader.bytes;
            default: return BAD;
        }
    }

    public int status() {
        return status;
    }

    private int found(int finding) {
        status = finding;
        return FINDINGS - finding;
    }

    private int fine(int answer) {
        status = 0;
        return answer;
    }

    private static boolean within(int v, int least, int most) {
        return v >= least && v <= most;
    }

    private static boolean has(int bits, int i) {
        return (bits >> i & 1) == 1;
    }

    private static int countOrBits(int bits, int what) {
        return what == 0 && bits != NONE ? Integer.bitCount(bits) : bits;
    }

    private static boolean isOneOf(int kind, int wanted) {
        int near = kind;
        for (int step = 0; step < TAME && near != wanted; step++) {
            near = ABOVE[near];
        }
        return near == wanted;
    }

    private static long commonDivisor(long a, long b) {
        long x = a;
        long y = b;
        for (int step = 0; step < 200 && y != 0; step++) {
            long rest = x % y;
            x = y;
            y = rest;
        }
        return x;
    }

    /** The rows 0 to 7, all in one array, so that none is made anew by a call. */
    private static final class Rows {
        static final int ROWS = 8, MOST_ITEMS = 40, MOST_LANE = 2;
        private static final int MISSING = -1;

        private final int[] items = new int[ROWS * MOST_ITEMS];
        private final int[] lanes = new int[ROWS];
        private final int[] lengths = new int[ROWS];

        Rows() {
            for (int row = 0; row < ROWS; row++) {
                lengths[row] = MISSING;
            }
        }

        boolean isRow(int row) {
            return within(row, 0, ROWS - 1);
        }

        boolean isMissing(int row) {
            return lengths[row] == MISSING;
        }

        int present() {
            int present = 0;
            for (int row = 0; row < ROWS; row++) {
                if (!isMissing(row)) {
                    present++;
                }
            }
            return present;
        }

        int findingOf(int row, int i, int n) {
            if (isMissing(row)) {
                return NULL;
            }
            return holds(row, i, n) ? 0 : PLACE;
        }

        int findingOfTwo(int a, int i, int b, int j, int n) {
            if (isMissing(a) || isMissing(b)) {
                return NULL;
            }
            if (lanes[a] != lanes[b]) {
                return STORE;
            }
            return holds(a, i, n) && holds(b, j, n) ? 0 : PLACE;
        }

        /** Told by a difference: i + n could wrap around. */
        private boolean holds(int row, int i, int n) {
            return i >= 0 && n >= 0 && n <= lengths[row] && i <= lengths[row] - n;
        }

        void make(int row, int lane, int n) {
            lanes[row] = lane;
            lengths[row] = n;
            for (int i = 0; i < n; i++) {
                items[row * MOST_ITEMS + i] = 0;
            }
        }

        int remove(int row) {
            int had = lengths[row];
            lengths[row] = MISSING;
            return had;
        }

        int put(int row, int i, int v) {
            int kept = cutToLane(lanes[row], v);
            items[row * MOST_ITEMS + i] = kept;
            return kept;
        }

        private static int cutToLane(int lane, int v) {
            switch (lane) {
                case 0: return (byte) v;
                case 1: return (short) v;
                default: return v;
            }
        }

        void move(int a, int i, int b, int j, int n) {
            System.arraycopy(items, a * MOST_ITEMS + i, items, b * MOST_ITEMS + j, n);
        }

        void tell(int row, int i, int n, int[] told) {
            for (int k = 0; k < n && k < told.length; k++) {
                told[k] = items[row * MOST_ITEMS + i + k];
            }
        }
    }

    /** The tape, and how it is read: the first token with a fault ends the reading, at its place. */
    private static final class Reader {
        private static final int MOST_BYTES = 120;
        private static final int CANNOT_STAND = 1, WRONG_NUMBER = 2, NO_ROOM = 3;
        private static final int NO_BYTE = -1;

        final County draft = new County();
        int bytes;
        int latestFault;
        private final int[] tape = new int[MOST_BYTES];
        private int place;
        private int fault;

        boolean isFull() {
            return bytes >= MOST_BYTES;
        }

        int take(int letter) {
            if (!isFull()) {
                tape[bytes] = letter;
                bytes++;
            }
            return bytes;
        }

        /** The place of the fault, or NONE; the draft is whole only then. */
        int read() {
            place = 0;
            fault = 0;
            draft.clear();
            readLaw();
            readRoads();
            readQuarrels();
            bytes = 0;
            if (fault == 0) {
                return NONE;
            }
            latestFault = fault;
            return place;
        }

        private void readLaw() {
            expect('c');
            int parishes = number(2, MOST_PARISHES, NONE);
            expect(',');
            int hay = number(0, 9, NONE);
            expect(';');
            if (fault == 0) {
                draft.addParishes(parishes, hay);
            }
        }

        private void readRoads() {
            readRoad();
            for (int more = 0; more < MOST_ROADS && fault == 0 && next() == 'r'; more++) {
                readRoad();
            }
        }

        private void readRoad() {
            if (next() == 'r' && draft.roads == MOST_ROADS) {
                fail(NO_ROOM);
            }
            expect('r');
            int one = number(0, draft.parishes - 1, NONE);
            expect(',');
            int other = number(0, draft.parishes - 1, one);
            expect(',');
            int grid = number(0, MOST_GRID, NONE);
            expect(';');
            if (fault == 0) {
                draft.addRoad(one, other, grid);
            }
        }

        private void readQuarrels() {
            readQuarrel();
            for (int more = 0; more < MOST_QUARRELS && fault == 0 && place < bytes; more++) {
                readQuarrel();
            }
        }

        private void readQuarrel() {
            if (kindOf(next()) != 0 && draft.quarrels == MOST_QUARRELS) {
                fail(NO_ROOM);
            }
            int kind = sort();
            int at = number(0, draft.parishes - 1, NONE);
            expect(',');
            int size = number(1, MOST_SIZE, NONE);
            expect(',');
            int brand = number(0, draft.parishes - 1, NONE);
            expect(';');
            if (fault == 0) {
                draft.addQuarrel(kind, at, size, brand);
            }
        }

        /** What is read behind a fault is no token any more: the first fault, and its place, stay. */
        private void fail(int number) {
            if (fault == 0) {
                fault = number;
            }
        }

        private int next() {
            return byteAt(place);
        }

        private int byteAt(int i) {
            return i >= 0 && i < bytes ? tape[i] : NO_BYTE;
        }

        private void expect(int letter) {
            if (fault != 0) {
                return;
            }
            if (next() == letter) {
                place++;
            } else {
                fail(CANNOT_STAND);
            }
        }

        private int sort() {
            int kind = kindOf(next());
            if (kind == 0) {
                fail(CANNOT_STAND);
            }
            if (fault == 0) {
                place++;
            }
            return kind;
        }

        private static int kindOf(int letter) {
            switch (letter) {
                case 'p': return PLAIN;
                case 't': return THIN;
                case 'k': return CALF;
                case 'b': return BULL;
                case 'm': return TAME;
                default: return 0;
            }
        }

        private int number(int least, int most, int barred) {
            if (fault != 0) {
                return 0;
            }
            int figures = figuresHere();
            if (figures < 1 || figures > 2) {
                fail(CANNOT_STAND);
                return 0;
            }
            int value = 0;
            for (int i = 0; i < figures; i++) {
                value = value * 10 + byteAt(place + i) - '0';
            }
            if (!within(value, least, most) || value == barred) {
                fail(WRONG_NUMBER);
                return 0;
            }
            place += figures;
            return value;
        }

        private int figuresHere() {
            int figures = 0;
            for (int i = place; i < bytes && within(byteAt(i), '0', '9'); i++) {
                figures++;
            }
            return figures;
        }
    }

    /**
     * A county as it stands in some year. One without parishes is none at all: it has no parish, road
     * or quarrel that a call could name. The tallies are of the years passed since it last became another.
     */
    private static final class County {
        static final int CELLS = 1 + MOST_PARISHES + MOST_ROADS + 2 * MOST_QUARRELS;

        int parishes;
        int roads;
        int quarrels;
        int year;
        final int[] hay = new int[MOST_PARISHES];
        final int[] one = new int[MOST_ROADS];
        final int[] other = new int[MOST_ROADS];
        final int[] grid = new int[MOST_ROADS];
        final int[] kind = new int[MOST_QUARRELS];
        final int[] at = new int[MOST_QUARRELS];
        final int[] size = new int[MOST_QUARRELS];
        final int[] brand = new int[MOST_QUARRELS];

        int grazedIn;
        int walks;
        final int[] meals = new int[MOST_QUARRELS];

        boolean isTold() {
            return parishes > 0;
        }

        boolean isParish(int p) {
            return within(p, 0, parishes - 1);
        }

        boolean isRoad(int r) {
            return within(r, 0, roads - 1);
        }

        boolean isQuarrel(int q) {
            return within(q, 0, quarrels - 1);
        }

        boolean isDead(int q) {
            return size[q] == 0;
        }

        void clear() {
            parishes = 0;
            roads = 0;
            quarrels = 0;
            year = 0;
        }

        void addParishes(int n, int hayInEach) {
            parishes = n;
            for (int p = 0; p < MOST_PARISHES; p++) {
                hay[p] = p < n ? hayInEach : 0;
            }
        }

        void addRoad(int from, int to, int width) {
            if (roads >= MOST_ROADS) {
                return;
            }
            one[roads] = from;
            other[roads] = to;
            grid[roads] = width;
            roads++;
        }

        void addQuarrel(int itsKind, int place, int itsSize, int itsBrand) {
            if (quarrels >= MOST_QUARRELS) {
                return;
            }
            kind[quarrels] = itsKind;
            at[quarrels] = place;
            size[quarrels] = itsSize;
            brand[quarrels] = itsBrand;
            quarrels++;
        }

        void become(County from) {
            parishes = from.parishes;
            roads = from.roads;
            quarrels = from.quarrels;
            year = from.year;
            System.arraycopy(from.hay, 0, hay, 0, MOST_PARISHES);
            System.arraycopy(from.one, 0, one, 0, MOST_ROADS);
            System.arraycopy(from.other, 0, other, 0, MOST_ROADS);
            System.arraycopy(from.grid, 0, grid, 0, MOST_ROADS);
            System.arraycopy(from.kind, 0, kind, 0, MOST_QUARRELS);
            System.arraycopy(from.at, 0, at, 0, MOST_QUARRELS);
            System.arraycopy(from.size, 0, size, 0, MOST_QUARRELS);
            System.arraycopy(from.brand, 0, brand, 0, MOST_QUARRELS);
            grazedIn = 0;
            walks = 0;
            for (int q = 0; q < MOST_QUARRELS; q++) {
                meals[q] = 0;
            }
        }

        /** Only what acts can change is written: a page has CELLS cells. */
        void writeTo(int[] page) {
            page[0] = year;
            System.arraycopy(hay, 0, page, 1, MOST_PARISHES);
            System.arraycopy(grid, 0, page, 1 + MOST_PARISHES, MOST_ROADS);
            System.arraycopy(at, 0, page, 1 + MOST_PARISHES + MOST_ROADS, MOST_QUARRELS);
            System.arraycopy(size, 0, page, CELLS - MOST_QUARRELS, MOST_QUARRELS);
        }

        void readFrom(int[] page) {
            year = page[0];
            System.arraycopy(page, 1, hay, 0, MOST_PARISHES);
            System.arraycopy(page, 1 + MOST_PARISHES, grid, 0, MOST_ROADS);
            System.arraycopy(page, 1 + MOST_PARISHES + MOST_ROADS, at, 0, MOST_QUARRELS);
            System.arraycopy(page, CELLS - MOST_QUARRELS, size, 0, MOST_QUARRELS);
        }

        boolean touches(int r, int p) {
            return one[r] == p || other[r] == p;
        }

        int farEnd(int r, int p) {
            return one[r] == p ? other[r] : one[r];
        }

        boolean crosses(int q, int r) {
            switch (kind[q]) {
                case THIN: return grid[r] < size[q] + 3;
                case CALF: return grid[r] == 0;
                default: return grid[r] < size[q];
            }
        }

        boolean wouldGo(int q) {
            if (kind[q] == BULL || kind[q] == TAME) {
                return hay[at[q]] == 0;
            }
            return true;
        }

        /** Where a quarrel stands once it has walked, but not yet eaten. */
        int nextPlace(int q) {
            int here = at[q];
            int best = here;
            if (isDead(q) || !wouldGo(q)) {
                return here;
            }
            for (int r = 0; r < roads; r++) {
                if (touches(r, here) && crosses(q, r) && hay[farEnd(r, here)] > hay[best]) {
                    best = farEnd(r, here);
                }
            }
            return best;
        }

        void passYear() {
            for (int q = 0; q < quarrels; q++) {
                if (!isDead(q)) {
                    walk(q, nextPlace(q));
                    eatOrStarve(q);
                }
            }
            year++;
        }

        /** No road ends where it begins, so a walk is seen by the place alone. */
        private void walk(int q, int there) {
            if (there != at[q]) {
                walks++;
                at[q] = there;
            }
        }

        private void eatOrStarve(int q) {
            int here = at[q];
            if (hay[here] > 0) {
                hay[here]--;
                size[q] = Math.min(MOST_SIZE, size[q] + (kind[q] == CALF ? 2 : 1));
                meals[q]++;
                grazedIn |= 1 << here;
            } else {
                size[q] = Math.max(kind[q] == TAME ? 1 : 0, size[q] - 1);
            }
        }

        void putHay(int p, int n) {
            hay[p] = Math.min(MOST_HAY, hay[p] + n);
        }

        int allHay() {
            int sum = 0;
            for (int p = 0; p < parishes; p++) {
                sum += hay[p];
            }
            return sum;
        }

        int living() {
            int living = 0;
            for (int q = 0; q < quarrels; q++) {
                if (!isDead(q)) {
                    living++;
                }
            }
            return living;
        }

        boolean livesIn(int q, int p) {
            return !isDead(q) && at[q] == p;
        }

        int livingIn(int p) {
            int bits = 0;
            for (int q = 0; q < quarrels; q++) {
                if (livesIn(q, p)) {
                    bits |= 1 << q;
                }
            }
            return bits;
        }

        int atTheirBrands() {
            int bits = 0;
            for (int q = 0; q < quarrels; q++) {
                if (livesIn(q, brand[q])) {
                    bits |= 1 << q;
                }
            }
            return bits;
        }

        int roadsAt(int p) {
            int bits = 0;
            for (int r = 0; r < roads; r++) {
                if (touches(r, p)) {
                    bits |= 1 << r;
                }
            }
            return bits;
        }

        int roadsOpenTo(int q) {
            int bits = 0;
            for (int r = 0; r < roads && !isDead(q); r++) {
                if (touches(r, at[q]) && crosses(q, r)) {
                    bits |= 1 << r;
                }
            }
            return bits;
        }

        int mostMeals() {
            int first = 0;
            for (int q = 1; q < quarrels; q++) {
                if (meals[q] > meals[first]) {
                    first = q;
                }
            }
            return first;
        }

        /** All parishes of a set, and those one road further. */
        private int spread(int q, int bits) {
            int wider = bits;
            for (int r = 0; r < roads; r++) {
                if (crosses(q, r) && (has(bits, one[r]) || has(bits, other[r]))) {
                    wider |= 1 << one[r] | 1 << other[r];
                }
            }
            return wider;
        }

        int roadsTo(int q, int p) {
            int bits = 1 << at[q];
            for (int n = 0; n < parishes; n++) {
                if (has(bits, p)) {
                    return n;
                }
                bits = spread(q, bits);
            }
            return NONE;
        }

        int allReached(int q) {
            int bits = 1 << at[q];
            for (int n = 1; n < parishes; n++) {
                bits = spread(q, bits);
            }
            return bits;
        }
    }

    /** The latest acts, each by the county ahead of it, in a ring: the oldest is written over. */
    private static final class Acts {
        static final int MOST = 24;

        int kept;
        private final int[][] pages = new int[MOST][County.CELLS];
        private int next;

        void forget() {
            kept = 0;
        }

        void keep(County county) {
            county.writeTo(pages[next]);
            next = next + 1 < MOST ? next + 1 : 0;
            kept = Math.min(MOST, kept + 1);
        }

        void takeBack(County county) {
            if (kept == 0) {
                return;
            }
            next = next > 0 ? next - 1 : MOST - 1;
            kept--;
            county.readFrom(pages[next]);
        }
    }

    /** Holds the county as it stands; what is foretold is tried out on another, so that nothing changes. */
    private static final class Seer {
        private static final int SHUT = 12, LURE = 9;
        private static final long FACTOR = 16807L, PRIME = 2147483647L;

        final County now = new County();
        final County trial = new County();
        final int[] told = new int[MOST_TOLD];

        void begin() {
            trial.become(now);
        }

        private void pass(int n) {
            for (int year = 0; year < n; year++) {
                trial.passYear();
            }
        }

        void lookAhead(int n) {
            begin();
            pass(n);
        }

        /** From the trial as it stands, which others change ahead of this. */
        int yearsToDeath(int q) {
            for (int year = 0; year <= FAR; year++) {
                if (trial.isDead(q)) {
                    return year;
                }
                trial.passYear();
            }
            return NONE;
        }

        int yearsToParish(int q, int p) {
            begin();
            for (int year = 0; year <= FAR; year++) {
                if (trial.livesIn(q, p)) {
                    return year;
                }
                trial.passYear();
            }
            return NONE;
        }

        int yearsToMeeting(int a, int b) {
            begin();
            for (int year = 0; year <= FAR; year++) {
                if (!trial.isDead(a) && trial.livesIn(b, trial.at[a])) {
                    return year;
                }
                trial.passYear();
            }
            return NONE;
        }

        /** Sets go upwards, and only a smaller one takes the place: so of several the least stays. */
        int fewestShut(int p, int n) {
            int best = NONE;
            int fewest = MOST_ROADS + 1;
            for (int bits = 0; bits < 1 << now.roads; bits++) {
                if (Integer.bitCount(bits) < fewest && sparedByShut(bits, p, n)) {
                    best = bits;
                    fewest = Integer.bitCount(bits);
                }
            }
            return best;
        }

        private boolean sparedByShut(int bits, int p, int n) {
            begin();
            setGrids(bits, SHUT);
            for (int year = 0; year < n; year++) {
                trial.passYear();
                if (isEntered(p)) {
                    return false;
                }
            }
            return true;
        }

        private void setGrids(int bits, int width) {
            for (int r = 0; r < trial.roads; r++) {
                if (has(bits, r)) {
                    trial.grid[r] = width;
                }
            }
        }

        private boolean isEntered(int p) {
            for (int q = 0; q < now.quarrels; q++) {
                if (now.at[q] != p && trial.at[q] == p) {
                    return true;
                }
            }
            return false;
        }

        int fewestLures(int q, int p, int n) {
            int best = NONE;
            int fewest = MOST_PARISHES + 1;
            for (int bits = 0; bits < 1 << now.parishes; bits++) {
                if (Integer.bitCount(bits) < fewest && isLured(bits, q, p, n)) {
                    best = bits;
                    fewest = Integer.bitCount(bits);
                }
            }
            return best;
        }

        private boolean isLured(int bits, int q, int p, int n) {
            begin();
            for (int place = 0; place < trial.parishes; place++) {
                if (has(bits, place)) {
                    trial.putHay(place, LURE);
                }
            }
            pass(n);
            return trial.livesIn(q, p);
        }

        int worstLoss(int q) {
            int worst = NONE;
            int soonest = FAR + 1;
            for (int p = 0; p < now.parishes && !now.isDead(q); p++) {
                int death = deathWithout(q, p);
                if (death != NONE && death < soonest) {
                    worst = p;
                    soonest = death;
                }
            }
            return worst;
        }

        int deathWithout(int q, int p) {
            begin();
            trial.hay[p] = 0;
            return yearsToDeath(q);
        }

        /** Whether the told row is of this quarrel, from the trial as it stands. */
        private boolean fits(int q, int n) {
            for (int year = 0; year < n && year < MOST_TOLD; year++) {
                trial.passYear();
                if (trial.at[q] != told[year]) {
                    return false;
                }
            }
            return true;
        }

        int kindsThatFit(int q, int n) {
            int bits = 0;
            for (int kind = PLAIN; kind <= TAME; kind++) {
                begin();
                trial.kind[q] = kind;
                if (fits(q, n)) {
                    bits |= 1 << kind;
                }
            }
            return bits;
        }

        int sizesThatFit(int q, int n) {
            int bits = 0;
            for (int size = 1; size <= MOST_SIZE; size++) {
                begin();
                trial.size[q] = size;
                if (fits(q, n)) {
                    bits |= 1 << size;
                }
            }
            return bits;
        }

        int placesThatFit(int q, int n) {
            int bits = 0;
            for (int p = 0; p < now.parishes; p++) {
                begin();
                trial.at[q] = p;
                if (fits(q, n)) {
                    bits |= 1 << p;
                }
            }
            return bits;
        }

        int gridsThatFit(int r, int q, int n) {
            int bits = 0;
            for (int width = 0; width <= MOST_GRID; width++) {
                begin();
                trial.grid[r] = width;
                if (fits(q, n)) {
                    bits |= 1 << width;
                }
            }
            return bits;
        }

        int quarrelsThatFit(int n) {
            int bits = 0;
            for (int q = 0; q < now.quarrels; q++) {
                begin();
                if (fits(q, n)) {
                    bits |= 1 << q;
                }
            }
            return bits;
        }

        private int roadsWithBars() {
            int bits = 0;
            for (int r = 0; r < now.roads; r++) {
                if (now.grid[r] > 0) {
                    bits |= 1 << r;
                }
            }
            return bits;
        }

        long allCases() {
            return power(10, Integer.bitCount(roadsWithBars()));
        }

        long snowyCases(int q, int p, int n, int ofTen) {
            int barred = roadsWithBars();
            long cases = 0;
            for (int bits = 0; bits < 1 << now.roads; bits++) {
                long weight = (bits & ~barred) == 0 ? casesOf(bits, barred, ofTen) : 0;
                if (weight > 0 && isThereIfFilled(bits, q, p, n)) {
                    cases += weight;
                }
            }
            return cases;
        }

        private static long casesOf(int filled, int barred, int ofTen) {
            int others = Integer.bitCount(barred & ~filled);
            return power(ofTen, Integer.bitCount(filled)) * power(10 - ofTen, others);
        }

        private boolean isThereIfFilled(int bits, int q, int p, int n) {
            begin();
            setGrids(bits, 0);
            pass(n);
            return trial.livesIn(q, p);
        }

        private static long power(int base, int n) {
            long product = 1;
            for (int i = 0; i < n; i++) {
                product *= base;
            }
            return product;
        }

        void draw(int n, int seed) {
            begin();
            if (trial.parishes < 1 || trial.roads < 1) {
                return;
            }
            long x = seed;
            for (int year = 0; year < n; year++) {
                x = x * FACTOR % PRIME;
                trial.putHay((int) (x % trial.parishes), (int) (x % 5));
                if (x % 6 == 0) {
                    trial.grid[(int) (x % trial.roads)] = 0;
                }
                trial.passYear();
            }
        }
    }

    /** The asks: each goes to the body of the nearest kind, and each body leaves its number. */
    private static final class Asker {
        private static final int ASK_SIZE = 0, ASK_MARK = 1;
        private static final int MOST_LEFT = 16, DEEPEST = 20;
        /** By kinds; 0: none of its own, so that of the kind above begins. */
        private static final int[] SIZE_BODIES = {10, 11, 12, 0, 13, 14};
        private static final int[] MARK_BODIES = {20, 21, 24, 22, 23, 0};

        private final int[] left = new int[MOST_LEFT];
        private int count;

        int answer(County now, int q, int what) {
            count = 0;
            return begin(now, what, q, 0);
        }

        int leftAt(int i) {
            return within(i, 0, count - 1) ? left[i] : NONE;
        }

        private int begin(County now, int what, int q, int depth) {
            return give(now, bodyFor(what, now.kind[q]), q, depth);
        }

        private static int bodyFor(int what, int kind) {
            int[] bodies = what == ASK_SIZE ? SIZE_BODIES : MARK_BODIES;
            int near = kind;
            for (int step = 0; step < TAME && bodies[near] == 0; step++) {
                near = ABOVE[near];
            }
            return bodies[near];
        }

        private void leave(int body) {
            if (count < MOST_LEFT) {
                left[count] = body;
                count++;
            }
        }

        private int give(County now, int body, int q, int depth) {
            if (depth > DEEPEST) {
                return 0;
            }
            leave(body);
            int deeper = depth + 1;
            switch (body) {
                case 10: return now.size[q];
                case 11: return give(now, 10, q, deeper) + begin(now, ASK_MARK, q, deeper);
                case 12: return -give(now, 11, q, deeper);
                case 13: return give(now, 10, q, deeper) - 100;
                case 14: return 2 * give(now, 13, q, deeper);
                case 20: return q;
                case 21: return give(now, 20, q, deeper) + now.at[q];
                case 22: return give(now, 21, q, deeper) - 1000;
                case 23: return give(now, 20, q, deeper) - begin(now, ASK_SIZE, q, deeper);
                case 24: return 2 * give(now, 21, q, deeper);
                default: return 0;
            }
        }
    }
}
