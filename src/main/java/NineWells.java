/**
 * Wells that give it back elsewhere. The words in capitals, and the promises
 * that each public method keeps, are those of the document (DOC.md).
 */
public final class NineWells {

    private static final int LOW = -1000000000;
    private static final int BEYOND = 1;
    private static final int NONE = 2;
    private static final int STATE = 3;
    private static final int FULL = 4;
    private static final int KIND = 5;

    private static final int MOST_WELLS = 9;
    private static final int MOST_THINGS = 10;
    private static final int MOST_FINDS = 12;
    private static final int MOST_BYTES = 50;
    private static final int MOST_WAITING = 20;
    private static final int MOST_SHEETS = 4;
    private static final int MOST_NUMBERS = 40;
    private static final int MOST_TRACED = 40;
    private static final int MOST_OPEN = 5;
    private static final int MOST_SPENT = 999999;
    private static final int MOST_SLOWED = 30;

    private static final int LAST_DAY = 9999;
    private static final int LONGEST_AHEAD = 200;
    private static final int LONGEST_GOING = 30;
    private static final int LONGEST_BELOW = 5;
    private static final int LATEST_FIND = 99;
    private static final int MOST_M = 30;

    private static final int KINDS = 7;
    private static final int LIGHT = 1;
    private static final int HEAVY = 2;
    private static final int COLD = 3;
    private static final int CORK = 4;
    private static final int PAIR = 5;
    private static final int SUNK = 6;
    private static final int[] KIND_ABOVE = {-1, 0, 0, 0, 1, 0, 2};

    private static final int IN_WELL = 0;
    private static final int BELOW = 1;
    private static final int OUT = 2;
    private static final int NOWHERE = -1;

    private static final int SLOWS = 0;
    private static final int TAKES = 1;

    private final World now;
    private final World ahead;
    private final World kept;
    private final Desk desk;
    private final Desk keptDesk;
    private final Reader reader;
    private final Belows agreeing;
    private final Voices voices;
    private final Sheet[] sheets;
    private final int[] errors;
    private int images;

    public NineWells() {
        desk = new Desk();
        keptDesk = new Desk();
        now = new World(desk.slows, desk.takes);
        ahead = new World(desk.slows, desk.takes);
        kept = new World(keptDesk.slows, keptDesk.takes);
        reader = new Reader(desk.tape);
        agreeing = new Belows();
        voices = new Voices();
        sheets = new Sheet[MOST_SHEETS];
        for (int i = 0; i < sheets.length; i++) {
            sheets[i] = new Sheet();
        }
        errors = new int[KIND + 1];
    }

    // ---- wells, things

    public int well() {
        if (now.wells.count >= MOST_WELLS) {
            return error(FULL);
        }
        return now.wells.dig();
    }

    public int going(int well, int to, int days) {
        Wells wells = now.wells;
        if (!wells.has(well) || !wells.allows(to, days)) {
            return error(BEYOND);
        }
        int led = wells.leadsTo(well);
        wells.lead(well, to, days);
        return led;
    }

    public int set(int well, int what, int v) {
        if (!now.wells.has(well) || what < 0 || what > 1) {
            return error(BEYOND);
        }
        if (!within(v, 0, what == 0 ? 99 : 1)) {
            return error(BEYOND);
        }
        int[] row = what == 0 ? now.wells.toll : now.wells.fishes;
        int was = pick(row, well);
        lay(row, well, v);
        return was;
    }

    public int ofWell(int well, int what) {
        Wells wells = now.wells;
        if (!wells.has(well)) {
            return error(BEYOND);
        }
        switch (what) {
            case 0: return wells.leadsTo(well);
            case 1: return wells.daysOf(well);
            case 2: return pick(wells.toll, well);
            case 3: return pick(wells.fishes, well);
            case 4: return now.things.bits(IN_WELL, well);
            case 5: return now.things.bits(BELOW, well);
            default: return error(BEYOND);
        }
    }

    public int goings(int sheet) {
        Sheet read = sheetAt(sheet);
        if (read == null) {
            return error(BEYOND);
        }
        if (read.bits == 0) {
            return error(NONE);
        }
        Wells wells = now.wells;
        int came = 0;
        for (int i = 0; i + 1 < read.count && came < wells.count; i += 2) {
            int to = pick(read.numbers, i);
            int days = pick(read.numbers, i + 1);
            if (!wells.allows(to, days)) {
                break;
            }
            wells.lead(came, to, days);
            came++;
        }
        return came;
    }

    public int thing(int kind, int m) {
        if (!isKind(kind) || !within(m, 0, MOST_M)) {
            return error(BEYOND);
        }
        if (now.things.count >= MOST_THINGS) {
            return error(FULL);
        }
        return now.things.make(kind, m);
    }

    public int ofThing(int thing, int what) {
        if (!now.things.has(thing) || !isDetail(what)) {
            return error(BEYOND);
        }
        return now.detail(thing, what);
    }

    public int as(int thing, int kind) {
        if (!now.things.has(thing) || !isKind(kind)) {
            return error(BEYOND);
        }
        if (!isUnder(pick(now.things.kind, thing), kind)) {
            return error(KIND);
        }
        return pick(now.things.m, thing);
    }

    public int let(int thing, int well) {
        if (!now.things.has(thing) || !now.wells.has(well)) {
            return error(BEYOND);
        }
        if (pick(now.things.state, thing) != OUT) {
            return error(STATE);
        }
        now.things.place(thing, IN_WELL, well, 0);
        return 1;
    }

    public int fish(int thing) {
        if (!now.things.has(thing)) {
            return error(BEYOND);
        }
        if (pick(now.things.state, thing) != IN_WELL) {
            return error(STATE);
        }
        int well = pick(now.things.well, thing);
        now.things.place(thing, OUT, well, 0);
        return well;
    }

    // ---- texts, days

    public int feed(long word, int n) {
        if (!within(n, 1, 8)) {
            return error(BEYOND);
        }
        if (desk.tape.count + n > MOST_BYTES) {
            return error(FULL);
        }
        for (int i = 0; i < n; i++) {
            desk.tape.append((int) (word >>> (8 * i)) & 255);
        }
        return desk.tape.count;
    }

    public int text(int use) {
        if (!isUse(use)) {
            return error(BEYOND);
        }
        int fault = reader.faultFor(use);
        desk.tape.count = 0;
        if (fault >= 0) {
            return -10 - fault;
        }
        Text target = use == SLOWS ? desk.slows : desk.takes;
        target.copyFrom(reader.draft);
        return 1;
    }

    public int law(int use, int a, int b, int c, int d) {
        if (!isUse(use)) {
            return error(BEYOND);
        }
        return now.gives(use, a, b, c, d);
    }

    public int days(int n) {
        if (!within(n, 1, 100)) {
            return error(BEYOND);
        }
        if (now.today + n > LAST_DAY) {
            return error(STATE);
        }
        now.goBy(n);
        return now.today;
    }

    public int floods(int n) {
        if (!within(n, 1, 100)) {
            return error(BEYOND);
        }
        if (now.today + n > LAST_DAY || now.wells.count == 0) {
            return error(STATE);
        }
        for (int i = 0; i < n; i++) {
            flood();
            now.goBy(1);
        }
        return now.today;
    }

    private void flood() {
        int wells = now.wells.count;
        if (wells <= 0) {
            return;
        }
        int well = desk.draw() % wells;
        int to = desk.draw() % wells;
        int days = desk.draw() % 9 + 1;
        now.wells.lead(well, to, days);
    }

    // ---- ahead

    public int then(int n, int thing, int what) {
        if (!within(n, 0, LONGEST_AHEAD) || !now.things.has(thing) || !isDetail(what)) {
            return error(BEYOND);
        }
        ahead.copyFrom(now);
        ahead.goBy(n);
        return ahead.detail(thing, what);
    }

    public int in(int n, int well) {
        if (!within(n, 0, LONGEST_AHEAD) || !now.wells.has(well)) {
            return error(BEYOND);
        }
        ahead.copyFrom(now);
        ahead.goBy(n);
        return ahead.things.bits(IN_WELL, well);
    }

    public int seen(int n, int thing, int well) {
        if (!within(n, 1, LONGEST_AHEAD) || !now.things.has(thing) || !now.wells.has(well)) {
            return error(BEYOND);
        }
        ahead.copyFrom(now);
        for (int day = 1; day <= n; day++) {
            ahead.goBy(1);
            if (ahead.things.wellOf(thing) == well) {
                return day;
            }
        }
        return error(NONE);
    }

    public int round(int thing, int well) {
        if (!now.things.has(thing) || !now.wells.has(well)) {
            return error(BEYOND);
        }
        ahead.copyFrom(now);
        ahead.leaveAlone(thing, well);
        boolean wasBelow = false;
        for (int day = 1; day <= LONGEST_AHEAD; day++) {
            ahead.goBy(1);
            wasBelow = wasBelow || pick(ahead.things.state, thing) == BELOW;
            if (wasBelow && ahead.things.wellOf(thing) == well) {
                return day;
            }
        }
        return error(NONE);
    }

    // ---- ways

    public int soon(int from, int to, int c) {
        if (!now.wells.has(from) || !now.wells.has(to) || !within(c, 1, 99)) {
            return error(BEYOND);
        }
        return now.wells.leastSum(from, to, c, false);
    }

    public int cheap(int from, int to, int p) {
        if (!now.wells.has(from) || !now.wells.has(to) || !within(p, 0, 99)) {
            return error(BEYOND);
        }
        return now.wells.leastSum(from, to, p, true);
    }

    public int rings(int what) {
        if (!within(what, 0, 1)) {
            return error(BEYOND);
        }
        return what == 0 ? now.wells.deepBits() : now.wells.howManyRings();
    }

    public int meet(int one, int other) {
        if (!now.wells.has(one) || !now.wells.has(other)) {
            return error(BEYOND);
        }
        int day = now.wells.meetingDay(one, other);
        return day < 0 ? error(NONE) : day;
    }

    public int tenth() {
        int well = now.wells.longestGoing();
        return well < 0 ? error(NONE) : well;
    }

    // ---- finds

    public int find(int from, int in, int day) {
        if (!now.wells.has(from) || !now.wells.has(in) || !within(day, 1, LATEST_FIND)) {
            return error(BEYOND);
        }
        if (desk.finds.count >= MOST_FINDS) {
            return error(FULL);
        }
        return desk.finds.append(from, in, day);
    }

    public int forget() {
        int were = desk.finds.count;
        desk.finds.count = 0;
        return were;
    }

    public int agrees(int find) {
        if (find < 0 || find >= desk.finds.count) {
            return error(BEYOND);
        }
        return desk.finds.isSo(find, now.wells) ? 1 : 0;
    }

    public int belows(int well, int d, int what) {
        if (!now.wells.has(well) || !within(d, 1, LONGEST_BELOW) || !within(what, 0, 2)) {
            return error(BEYOND);
        }
        agreeing.search(now.wells, desk.finds, well, d, 0);
        switch (what) {
            case 0: return agreeing.howMany;
            case 1: return agreeing.first;
            default: return Integer.bitCount(agreeing.ledTo) <= 1 ? 1 : 0;
        }
    }

    public int cork(int well, int d, int n, int what) {
        if (!now.wells.has(well) || !within(d, 1, LONGEST_BELOW)) {
            return error(BEYOND);
        }
        if (!within(n, 1, LATEST_FIND) || !within(what, 0, 1)) {
            return error(BEYOND);
        }
        agreeing.search(now.wells, desk.finds, well, d, n);
        int best = agreeing.bestStart(now.wells.count);
        return what == 0 ? best : agreeing.howManyPlaces(best);
    }

    // ---- draws, voices, sheets, images, what is told

    public int seed(int v) {
        int was = desk.z;
        desk.z = v;
        return was;
    }

    public int voice(int thing, int act, int x) {
        Things things = now.things;
        if (!things.has(thing) || !within(act, 0, Voices.ACTS - 1)) {
            return error(BEYOND);
        }
        return voices.begin(pick(things.kind, thing), thing, pick(things.m, thing), act, x);
    }

    public int trace(int i) {
        if (i < 0 || i >= voices.count) {
            return error(NONE);
        }
        return pick(voices.bodies, i);
    }

    public int sheet(int sheet, int bits, int n) {
        Sheet laid = sheetAt(sheet);
        if (laid == null || bits != 0 && bits != 8 && bits != 16 && bits != 32) {
            return error(BEYOND);
        }
        if (bits == 0) {
            laid.clear(0, 0);
            return 1;
        }
        if (n < 0) {
            return error(STATE);
        }
        if (n > MOST_NUMBERS) {
            return error(BEYOND);
        }
        laid.clear(bits, n);
        return 1;
    }

    public int put(int sheet, int i, int v) {
        Sheet written = sheetAt(sheet);
        if (written == null) {
            return error(BEYOND);
        }
        if (written.bits == 0) {
            return error(NONE);
        }
        if (i < 0 || i >= written.count) {
            return error(BEYOND);
        }
        written.write(i, v);
        return 1;
    }

    public int move(int sheet, int i, int other, int j, int n) {
        Sheet from = sheetAt(sheet);
        Sheet to = sheetAt(other);
        if (from == null || to == null) {
            return error(BEYOND);
        }
        if (from.bits == 0 || to.bits == 0) {
            return error(NONE);
        }
        if (from.bits != to.bits) {
            return error(KIND);
        }
        if (!from.hasSpan(i, n) || !to.hasSpan(j, n)) {
            return error(BEYOND);
        }
        System.arraycopy(from.numbers, i, to.numbers, j, n);
        return n;
    }

    public int image() {
        kept.copyFrom(now);
        keptDesk.copyFrom(desk);
        images++;
        return images;
    }

    public int restore() {
        if (images == 0) {
            return error(NONE);
        }
        now.copyFrom(kept);
        desk.copyFrom(keptDesk);
        return now.today;
    }

    public int tell(int v) {
        if (desk.waiting.count >= MOST_WAITING) {
            return error(FULL);
        }
        desk.waiting.append(v);
        return desk.waiting.count;
    }

    public int check(int thing) {
        int waited = desk.waiting.count;
        desk.waiting.count = 0;
        if (!now.things.has(thing)) {
            return error(BEYOND);
        }
        ahead.copyFrom(now);
        for (int i = 0; i < waited; i++) {
            ahead.goBy(1);
            if (ahead.things.wellOf(thing) != pick(desk.waiting.numbers, i)) {
                return 1 + i;
            }
        }
        return 0;
    }

    public int count(int what) {
        switch (what) {
            case 0: return now.today;
            case 1: return now.wells.count;
            case 2: return now.things.count;
            case 3: return now.things.howManyOut();
            case 4: return desk.finds.count;
            case 5: return desk.tape.count;
            case 6: return desk.waiting.count;
            case 7: return voices.count;
            case 8: return desk.z;
            default: return error(BEYOND);
        }
    }

    public int told(int k) {
        if (!within(k, BEYOND, KIND)) {
            return error(BEYOND);
        }
        return pick(errors, k);
    }

    // Counted here and not by what is answered: a voice, a law or z may be any number.
    private int error(int k) {
        lay(errors, k, pick(errors, k) + 1);
        return LOW - k;
    }

    private Sheet sheetAt(int i) {
        return i >= 0 && i < sheets.length ? sheets[i] : null;
    }

    private static boolean within(int v, int least, int most) {
        return v >= least && v <= most;
    }

    private static boolean isKind(int kind) {
        return within(kind, 0, KINDS - 1);
    }

    private static boolean isUse(int use) {
        return use == SLOWS || use == TAKES;
    }

    private static boolean isDetail(int what) {
        return within(what, 0, 7);
    }

    private static boolean isUnder(int kind, int wanted) {
        int above = kind;
        for (int i = 0; i < KINDS && above >= 0; i++) {
            if (above == wanted) {
                return true;
            }
            above = pick(KIND_ABOVE, above);
        }
        return false;
    }

    // Rows are read and written through these two, so that no index is used untested.
    private static int pick(int[] row, int i) {
        return i >= 0 && i < row.length ? row[i] : 0;
    }

    private static void lay(int[] row, int i, int v) {
        if (i >= 0 && i < row.length) {
            row[i] = v;
        }
    }

    private static void copyRow(int[] from, int[] to) {
        System.arraycopy(from, 0, to, 0, Math.min(from.length, to.length));
    }

    /** WELLS with their GOINGS, and what follows from these alone. */
    private static final class Wells {
        final int[] leads = new int[MOST_WELLS];
        final int[] days = new int[MOST_WELLS];
        final int[] toll = new int[MOST_WELLS];
        final int[] fishes = new int[MOST_WELLS];
        int count;

        void copyFrom(Wells other) {
            copyRow(other.leads, leads);
            copyRow(other.days, days);
            copyRow(other.toll, toll);
            copyRow(other.fishes, fishes);
            count = other.count;
        }

        boolean has(int well) {
            return well >= 0 && well < count;
        }

        int dig() {
            int well = count;
            count++;
            lead(well, NOWHERE, 1);
            lay(toll, well, 0);
            lay(fishes, well, 0);
            return well;
        }

        boolean allows(int to, int howLong) {
            return (to == NOWHERE || has(to)) && within(howLong, 1, LONGEST_GOING);
        }

        void lead(int well, int to, int howLong) {
            lay(leads, well, to);
            lay(days, well, howLong);
        }

        int leadsTo(int well) {
            return has(well) ? pick(leads, well) : NOWHERE;
        }

        int daysOf(int well) {
            return pick(days, well);
        }

        int placeOn(int from, int day) {
            int at = from;
            int reached = 0;
            for (int step = 0; step < day && reached < day; step++) {
                if (!has(at)) {
                    return NOWHERE;
                }
                reached += daysOf(at);
                at = leadsTo(at);
            }
            return reached == day ? at : NOWHERE;
        }

        // Nothing costs less than 0, so no way with a CARRYING in it is below
        // the one CARRYING that goes there straight.
        int leastSum(int from, int to, int carrying, boolean byToll) {
            if (from == to) {
                return 0;
            }
            int at = from;
            int sum = 0;
            for (int step = 0; step < count && at != to && at >= 0; step++) {
                int next = leadsTo(at);
                sum += byToll ? pick(toll, next) : daysOf(at);
                at = next;
            }
            return at == to ? Math.min(sum, carrying) : carrying;
        }

        // The least WELL of the ring that a WELL is in, by which a ring is known.
        private int leastOfRing(int well) {
            int at = well;
            int least = well;
            for (int step = 0; step < count; step++) {
                at = leadsTo(at);
                if (at == well) {
                    return least;
                }
                least = Math.min(least, at);
            }
            return NOWHERE;
        }

        int deepBits() {
            int bits = 0;
            for (int well = 0; well < count; well++) {
                if (leastOfRing(well) < 0) {
                    bits |= 1 << well;
                }
            }
            return bits;
        }

        int howManyRings() {
            int rings = 0;
            for (int well = 0; well < count; well++) {
                if (leastOfRing(well) == well) {
                    rings++;
                }
            }
            return rings;
        }

        // The WALK that is behind goes on first, so no DAY on which both are in
        // WELLS is passed over.
        int meetingDay(int one, int other) {
            int a = one;
            int b = other;
            int dayA = 0;
            int dayB = 0;
            for (int step = 0; step <= 2 * LONGEST_AHEAD && Math.max(dayA, dayB) <= LONGEST_AHEAD; step++) {
                if (dayA == dayB && a == b) {
                    return dayA;
                }
                boolean isFirst = dayA <= dayB;
                int behind = isFirst ? a : b;
                if (leadsTo(behind) < 0) {
                    return -1;
                }
                if (isFirst) {
                    dayA += daysOf(behind);
                    a = leadsTo(behind);
                } else {
                    dayB += daysOf(behind);
                    b = leadsTo(behind);
                }
            }
            return -1;
        }

        int longestGoing() {
            int longest = NOWHERE;
            for (int well = 0; well < count; well++) {
                if (leadsTo(well) >= 0 && (longest < 0 || daysOf(well) > daysOf(longest))) {
                    longest = well;
                }
            }
            return longest;
        }
    }

    /** THINGS, and where each is. */
    private static final class Things {
        final int[] kind = new int[MOST_THINGS];
        final int[] m = new int[MOST_THINGS];
        final int[] state = new int[MOST_THINGS];
        final int[] well = new int[MOST_THINGS];
        final int[] left = new int[MOST_THINGS];
        final int[] spent = new int[MOST_THINGS];
        int count;

        void copyFrom(Things other) {
            copyRow(other.kind, kind);
            copyRow(other.m, m);
            copyRow(other.state, state);
            copyRow(other.well, well);
            copyRow(other.left, left);
            copyRow(other.spent, spent);
            count = other.count;
        }

        boolean has(int thing) {
            return thing >= 0 && thing < count;
        }

        int make(int itsKind, int itsM) {
            int thing = count;
            count++;
            lay(kind, thing, itsKind);
            lay(m, thing, itsM);
            lay(spent, thing, 0);
            place(thing, OUT, NOWHERE, 0);
            return thing;
        }

        void place(int thing, int itsState, int itsWell, int daysLeft) {
            lay(state, thing, itsState);
            lay(well, thing, itsWell);
            lay(left, thing, daysLeft);
        }

        int wellOf(int thing) {
            return pick(state, thing) == IN_WELL ? pick(well, thing) : NOWHERE;
        }

        int bits(int itsState, int itsWell) {
            int bits = 0;
            for (int thing = 0; thing < count && thing < MOST_THINGS; thing++) {
                if (state[thing] == itsState && well[thing] == itsWell) {
                    bits |= 1 << thing;
                }
            }
            return bits;
        }

        int others(int thing, int itsState, int itsWell) {
            return Integer.bitCount(bits(itsState, itsWell) & ~(1 << thing));
        }

        int belowBits() {
            int bits = 0;
            for (int thing = 0; thing < count; thing++) {
                if (pick(state, thing) == BELOW) {
                    bits |= 1 << thing;
                }
            }
            return bits;
        }

        int howManyOut() {
            int out = 0;
            for (int thing = 0; thing < count; thing++) {
                if (pick(state, thing) == OUT) {
                    out++;
                }
            }
            return out;
        }
    }

    /**
     * All that a DAY that goes by changes, so that what is AHEAD can be found
     * on a copy of this. The TEXTS it only looks at, so a copy shares them.
     */
    private static final class World {
        final Wells wells = new Wells();
        final Things things = new Things();
        private final Text slows;
        private final Text takes;
        int today;

        World(Text slows, Text takes) {
            this.slows = slows;
            this.takes = takes;
        }

        void copyFrom(World other) {
            wells.copyFrom(other.wells);
            things.copyFrom(other.things);
            today = other.today;
        }

        void goBy(int n) {
            for (int day = 0; day < n; day++) {
                int wereBelow = things.belowBits();
                for (int thing = 0; thing < things.count; thing++) {
                    goDown(thing);
                }
                for (int thing = 0; thing < things.count; thing++) {
                    if ((wereBelow >> thing & 1) != 0) {
                        comeNearer(thing);
                    }
                }
                today++;
            }
        }

        private void goDown(int thing) {
            int to = wells.leadsTo(things.wellOf(thing));
            if (to >= 0 && !stays(thing)) {
                things.place(thing, BELOW, to, lasts(thing));
            }
        }

        private void comeNearer(int thing) {
            int well = pick(things.well, thing);
            int left = pick(things.left, thing) - 1;
            if (left > 0) {
                things.place(thing, BELOW, well, left);
                return;
            }
            int spent = Math.min(MOST_SPENT, pick(things.spent, thing) + pick(wells.toll, well));
            lay(things.spent, thing, spent);
            boolean taken = pick(wells.fishes, well) != 0
                    && gives(TAKES, well, pick(things.kind, thing), today, spent) != 0;
            things.place(thing, taken ? OUT : IN_WELL, well, 0);
        }

        int gives(int use, int a, int b, int c, int d) {
            if (use == SLOWS) {
                return slows.length == 0 ? 0 : Math.max(0, Math.min(MOST_SLOWED, slows.worth(a, b, c, d)));
            }
            return takes.length == 0 ? 1 : takes.worth(a, b, c, d);
        }

        int detail(int thing, int what) {
            int well = things.wellOf(thing);
            switch (what) {
                case 0: return pick(things.kind, thing);
                case 1: return pick(things.m, thing);
                case 2: return pick(things.state, thing);
                case 3: return pick(things.well, thing);
                case 4: return pick(things.left, thing);
                case 5: return pick(things.spent, thing);
                case 6: return wells.leadsTo(well) >= 0 ? lasts(thing) : -1;
                default: return well >= 0 && stays(thing) ? 1 : 0;
            }
        }

        private int month() {
            return today / 30 % 12;
        }

        private int lasts(int thing) {
            int well = pick(things.well, thing);
            int kind = pick(things.kind, thing);
            int m = pick(things.m, thing);
            return lastsByKind(thing, kind, m, well) + gives(SLOWS, well, kind, today, m);
        }

        private int lastsByKind(int thing, int kind, int m, int well) {
            int days = wells.daysOf(well);
            switch (kind) {
                case LIGHT:
                case CORK: return Math.max(1, days - 1);
                case HEAVY: return days + m;
                case COLD: return days * 2;
                case PAIR: return days + things.others(thing, BELOW, wells.leadsTo(well));
                case SUNK: return days + m + (within(month(), 5, 7) ? 5 : 0);
                default: return days;
            }
        }

        private boolean stays(int thing) {
            switch (pick(things.kind, thing)) {
                case HEAVY: return waitsForMore(thing);
                case COLD: return month() <= 1 || month() == 11;
                case SUNK: return waitsForMore(thing) || today % 7 == 0;
                default: return false;
            }
        }

        private boolean waitsForMore(int thing) {
            int m = pick(things.m, thing);
            return m <= 3 && things.others(thing, IN_WELL, pick(things.well, thing)) < m;
        }

        void leaveAlone(int thing, int well) {
            for (int i = 0; i < things.count; i++) {
                things.place(i, OUT, NOWHERE, 0);
            }
            things.place(thing, IN_WELL, well, 0);
            for (int i = 0; i < wells.count; i++) {
                lay(wells.fishes, i, 0);
            }
        }
    }

    /**
     * A TEXT, as its numbers, NAMES and signs in the order in which they are
     * worked out: numbers are themselves, NAMES -1 to -4, signs less than that
     * (their bytes below 0). Without a TEXT its length is 0.
     */
    private static final class Text {
        private final int[] code = new int[MOST_BYTES];
        private final int[] stack = new int[MOST_BYTES];
        int length;

        void copyFrom(Text other) {
            copyRow(other.code, code);
            length = other.length;
        }

        void append(int piece) {
            lay(code, length, piece);
            length++;
        }

        int worth(int a, int b, int c, int d) {
            int top = -1;
            for (int i = 0; i < length; i++) {
                int piece = pick(code, i);
                if (piece >= -4) {
                    top++;
                    lay(stack, top, piece >= 0 ? piece : named(-1 - piece, a, b, c, d));
                } else if (piece == -'!') {
                    lay(stack, top, pick(stack, top) == 0 ? 1 : 0);
                } else {
                    top--;
                    lay(stack, top, joined(-piece, pick(stack, top), pick(stack, top + 1)));
                }
            }
            return pick(stack, top);
        }

        private static int named(int name, int a, int b, int c, int d) {
            switch (name) {
                case 0: return a;
                case 1: return b;
                case 2: return c;
                default: return d;
            }
        }

        private static int joined(int sign, int a, int b) {
            switch (sign) {
                case '|': return a != 0 || b != 0 ? 1 : 0;
                case '&': return a != 0 && b != 0 ? 1 : 0;
                case '<': return a < b ? 1 : 0;
                case '=': return a == b ? 1 : 0;
                case '>': return a > b ? 1 : 0;
                case '+': return a + b;
                case '-': return a - b;
                case '*': return a * b;
                case '/': return b == 0 ? 0 : a / b;
                default: return b == 0 ? 0 : a % b;
            }
        }
    }

    /**
     * Reads THE TAPE as a TEXT into a draft. It never goes past a byte that
     * can't go on, so where it stands when it gives up is the FAULT.
     */
    private static final class Reader {
        private static final int COMPARING = 2;
        private static final int LEVELS = 5;

        final Text draft = new Text();
        private final Row tape;
        private int use;
        private int at;

        Reader(Row tape) {
            this.tape = tape;
        }

        int faultFor(int itsUse) {
            use = itsUse;
            at = 0;
            draft.length = 0;
            return reads(0, 0) && at == tape.count ? -1 : at;
        }

        private boolean reads(int level, int open) {
            if (level >= LEVELS) {
                return readsUnit(open);
            }
            if (!reads(level + 1, open)) {
                return false;
            }
            int mostSigns = level == COMPARING ? 1 : MOST_BYTES;
            for (int i = 0; i < mostSigns && levelOf(next()) == level; i++) {
                int sign = next();
                at++;
                if (!reads(level + 1, open)) {
                    return false;
                }
                draft.append(-sign);
            }
            return true;
        }

        private boolean readsUnit(int open) {
            int first = next();
            if (isDigit(first)) {
                readNumber();
                return true;
            }
            int name = nameOf(first);
            if (name >= 0) {
                at++;
                draft.append(-1 - name);
                return true;
            }
            if (first != '!' && first != '(' || open >= MOST_OPEN) {
                return false;
            }
            at++;
            return first == '!' ? readsNot(open + 1) : readsInside(open + 1);
        }

        private boolean readsNot(int open) {
            if (!readsUnit(open)) {
                return false;
            }
            draft.append(-'!');
            return true;
        }

        private boolean readsInside(int open) {
            if (!reads(0, open) || next() != ')') {
                return false;
            }
            at++;
            return true;
        }

        private void readNumber() {
            int number = 0;
            for (int digits = 0; digits < 4 && isDigit(next()); digits++) {
                number = number * 10 + next() - '0';
                at++;
            }
            draft.append(number);
        }

        private int next() {
            return at >= 0 && at < tape.count && at < tape.numbers.length ? tape.numbers[at] : -1;
        }

        private static boolean isDigit(int sign) {
            return sign >= '0' && sign <= '9';
        }

        private int nameOf(int sign) {
            switch (sign) {
                case 'w': return 0;
                case 'k': return 1;
                case 't': return 2;
                case 'm': return use == SLOWS ? 3 : -1;
                case 's': return use == TAKES ? 3 : -1;
                default: return -1;
            }
        }

        private static int levelOf(int sign) {
            switch (sign) {
                case '|': return 0;
                case '&': return 1;
                case '<':
                case '=':
                case '>': return COMPARING;
                case '+':
                case '-': return 3;
                case '*':
                case '/':
                case '%': return 4;
                default: return -1;
            }
        }
    }

    /** Numbers one behind the other: THE TAPE's bytes, or numbers that wait. */
    private static final class Row {
        final int[] numbers;
        int count;

        Row(int most) {
            numbers = new int[Math.max(0, most)];
        }

        void copyFrom(Row other) {
            copyRow(other.numbers, numbers);
            count = other.count;
        }

        void append(int v) {
            lay(numbers, count, v);
            count++;
        }
    }

    /** What an IMAGE keeps beside a World: no DAY that goes by changes it. */
    private static final class Desk {
        final Finds finds = new Finds();
        final Text slows = new Text();
        final Text takes = new Text();
        final Row tape = new Row(MOST_BYTES);
        final Row waiting = new Row(MOST_WAITING);
        int z = 1;

        void copyFrom(Desk other) {
            finds.copyFrom(other.finds);
            slows.copyFrom(other.slows);
            takes.copyFrom(other.takes);
            tape.copyFrom(other.tape);
            waiting.copyFrom(other.waiting);
            z = other.z;
        }

        int draw() {
            z = z * 1103515245 + 12345;
            return z >>> 8;
        }
    }

    /** FINDS. */
    private static final class Finds {
        private final int[] from = new int[MOST_FINDS];
        private final int[] in = new int[MOST_FINDS];
        private final int[] day = new int[MOST_FINDS];
        int count;

        void copyFrom(Finds other) {
            copyRow(other.from, from);
            copyRow(other.in, in);
            copyRow(other.day, day);
            count = other.count;
        }

        int append(int itsFrom, int itsIn, int itsDay) {
            int number = count;
            count++;
            lay(from, number, itsFrom);
            lay(in, number, itsIn);
            lay(day, number, itsDay);
            return number;
        }

        boolean isSo(int number, Wells wells) {
            return wells.placeOn(pick(from, number), pick(day, number)) == pick(in, number);
        }

        boolean allSo(Wells wells) {
            for (int i = 0; i < count; i++) {
                if (!isSo(i, wells)) {
                    return false;
                }
            }
            return true;
        }
    }

    /** BELOWS: what the latest search for them came upon. */
    private static final class Belows {
        private final Wells tried = new Wells();
        private final int[] places = new int[MOST_WELLS];
        int howMany;
        int first;
        int ledTo;

        void search(Wells wells, Finds finds, int well, int d, int n) {
            howMany = 0;
            first = -1;
            ledTo = 0;
            for (int i = 0; i < places.length; i++) {
                places[i] = 0;
            }
            tried.copyFrom(wells);
            for (int to = 0; to < wells.count; to++) {
                for (int days = 1; days <= d; days++) {
                    tried.lead(well, to, days);
                    if (finds.allSo(tried)) {
                        note(to, days, n);
                    }
                }
            }
        }

        private void note(int to, int days, int n) {
            if (howMany == 0) {
                first = 10 * to + days;
            }
            howMany++;
            ledTo |= 1 << to;
            for (int start = 0; start < tried.count; start++) {
                int place = tried.placeOn(start, n);
                int bit = place < 0 ? MOST_WELLS : place;
                lay(places, start, pick(places, start) | 1 << bit);
            }
        }

        int howManyPlaces(int start) {
            return Integer.bitCount(pick(places, start));
        }

        int bestStart(int wells) {
            int best = 0;
            for (int start = 1; start < wells; start++) {
                if (howManyPlaces(start) > howManyPlaces(best)) {
                    best = start;
                }
            }
            return best;
        }
    }

    /** A SHEET: with 0 bits it is missing. */
    private static final class Sheet {
        final int[] numbers = new int[MOST_NUMBERS];
        int bits;
        int count;

        void clear(int itsBits, int howMany) {
            bits = itsBits;
            count = howMany;
            for (int i = 0; i < numbers.length; i++) {
                numbers[i] = 0;
            }
        }

        void write(int i, int v) {
            lay(numbers, i, bits == 8 ? (byte) v : bits == 16 ? (short) v : v);
        }

        // By what is left behind i, since i + n might wrap.
        boolean hasSpan(int i, int n) {
            return i >= 0 && n >= 0 && i <= count && n <= count - i;
        }
    }

    /** VOICES, and THE TRACE of the latest one. */
    private static final class Voices {
        static final int ACTS = 4;
        private static final int SINKS = 0;
        private static final int GOES = 1;
        private static final int WAITS = 2;
        private static final int TELLS = 3;
        private static final int DEEPEST = 40;

        // Four to a KIND, by acts; 0 where the KIND above has it.
        private static final int[] BODIES = {
            10, 11, 12, 13,
            0, 20, 0, 0,
            30, 0, 0, 0,
            0, 0, 40, 0,
            0, 50, 0, 0,
            0, 0, 0, 60,
            70, 0, 0, 71
        };

        final int[] bodies = new int[MOST_TRACED];
        int count;
        private int kind;
        private int n;
        private int m;

        int begin(int itsKind, int itsNumber, int itsM, int act, int x) {
            kind = itsKind;
            n = itsNumber;
            m = itsM;
            count = 0;
            return says(kind, act, x, 0);
        }

        private int says(int from, int act, int x, int depth) {
            if (depth > DEEPEST) {
                return 0;
            }
            int holder = holderOf(from, act);
            int above = pick(KIND_ABOVE, holder);
            int body = pick(BODIES, holder * ACTS + act);
            int deeper = depth + 1;
            note(body);
            switch (body) {
                case 10: return x + n;
                case 11: return says(kind, SINKS, x, deeper) * 2;
                case 12: return x - m;
                case 13: return says(kind, GOES, x, deeper) ^ says(kind, WAITS, x, deeper);
                case 20: return says(above, GOES, x, deeper) - says(kind, WAITS, 1, deeper);
                case 30: return says(above, SINKS, x, deeper) * 3;
                case 40: return -says(above, WAITS, x, deeper);
                case 50: return says(above, GOES, x + 1, deeper);
                case 60: return says(above, TELLS, x, deeper) - says(kind, SINKS, 2, deeper);
                case 70: return says(above, SINKS, x, deeper) ^ n;
                case 71: return says(kind, GOES, x, deeper) - says(above, TELLS, x, deeper);
                default: return 0;
            }
        }

        private static int holderOf(int from, int act) {
            int holder = from;
            for (int i = 0; i < KINDS && pick(BODIES, holder * ACTS + act) == 0; i++) {
                holder = pick(KIND_ABOVE, holder);
            }
            return holder;
        }

        private void note(int body) {
            if (count < MOST_TRACED) {
                lay(bodies, count, body);
                count++;
            }
        }
    }
}
