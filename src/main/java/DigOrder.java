/**
 * Dig order: units of a dig with what lies above what, the proof of them, phases, dates,
 * digging in deed and in thought, trays, words, drawings, what is seen, events and tapes.
 *
 * Every row is made with the object and used again: no call makes anything, so that a long
 * run of calls keeps to its room.
 */
public final class DigOrder {
    public static final int NONE = -1, BAD = -2, STATE = -3, FULL = -4;
    /** There is no such number. */
    public static final long NO = Long.MIN_VALUE;

    private static final int ABSENT = -5;
    private static final int NOTHING = -11, CAST = -12, PLACE = -13, SIZE = -14;

    private static final int MOST_UNITS = 12, MOST_TIES = 40, MOST_SEEN = 5, MOST_EVENTS = 8;
    private static final int PHASES = 6, TRAYS = 3, PLACES = 4;
    private static final int TAPES = 6, TAPE_ROOM = 60, SHORTS = 1;
    private static final int MOST_TEXT = 100, MOST_SENTENCES = 8;
    /** The longest drawing: 40 ties of three bytes with 39 bytes between them. */
    private static final int PAPER_ROOM = 160;

    private static final int KIND = 0, THICK = 1, FROM = 2, TO = 3, PHASE = 4, TRAITS = 5;
    private static final int[] LEAST = {0, 0, 0, 0, -1};
    private static final int[] GREATEST = {5, 99, 2000, 2000, 5};

    private static final int CUT = 1, FILL = 2, WALL = 3, PIT = 4, HEARTH = 5;
    private static final int VERB_OVER = 0, VERB_UNDER = 1, VERB_CUTS = 2, VERB_FILLS = 3, VERB_JOINS = 4;

    private final Site site = new Site();
    private final Site picture = new Site();
    private final Site trial = new Site();
    private boolean pictured = false;
    private final Web web = new Web();
    private final Ways ways = new Ways();
    private final Verdict verdict = new Verdict();
    private final Words words = new Words();
    private final Sheet sheet = new Sheet();
    private final Reels reels = new Reels();

    public DigOrder() {
    }

    // ---- units, ties

    public int unit(int kind) {
        if (kind < LEAST[KIND] || kind > GREATEST[KIND]) {
            return BAD;
        }
        if (site.units >= MOST_UNITS) {
            return FULL;
        }
        return site.addUnit(kind);
    }

    public int set(int unit, int what, int v) {
        if (!site.isUnit(unit) || what < 0 || what >= TRAITS) {
            return NONE;
        }
        if (v < LEAST[what] || v > GREATEST[what]) {
            return BAD;
        }
        int was = traitTold(unit, what);
        site.putTrait(what, unit, v);
        return was;
    }

    public int of(int unit, int what) {
        if (!site.isUnit(unit) || what < 0 || what > TRAITS) {
            return NONE;
        }
        if (what == TRAITS) {
            return site.isDug(unit) ? 1 : 0;
        }
        return traitTold(unit, what);
    }

    public int tie(int a, int b) {
        if (!isPair(a, b)) {
            return NONE;
        }
        if (site.tieNumber(a, b) >= 0) {
            return STATE;
        }
        if (site.ties >= MOST_TIES) {
            return FULL;
        }
        site.addTie(a, b);
        return site.ties;
    }

    public int untie(int a, int b) {
        if (!isPair(a, b)) {
            return NONE;
        }
        int number = site.tieNumber(a, b);
        if (number < 0) {
            return STATE;
        }
        site.dropTie(number);
        return site.ties;
    }

    public int told(int what) {
        switch (what) {
            case 0: return site.units;
            case 1: return site.ties;
            case 2: return woven().reducedTies();
            case 3: return woven().hasCycle() ? ABSENT : web.rankLevels();
            case 4: return Integer.bitCount(woven().selfReachers());
            case 5: return site.digs;
            case 6: return phasesInUse();
            default: return NONE;
        }
    }

    // ---- order

    public int below(int unit, int what) {
        if (!site.isUnit(unit) || what < 0 || what > 4) {
            return NONE;
        }
        woven();
        switch (what) {
            case 0: return web.under[unit];
            case 1: return web.reach[unit];
            case 2: return web.reducedUnder(unit);
            case 3: return web.above[unit];
            default: return web.reachersOf(unit);
        }
    }

    public int cycle(int i) {
        if (i < -1) {
            return NONE;
        }
        int length = woven().showCycle();
        if (i == -1) {
            return length;
        }
        return i < length ? web.shown[i] : ABSENT;
    }

    public int level(int unit) {
        if (!site.isUnit(unit)) {
            return NONE;
        }
        if (woven().hasCycle()) {
            return STATE;
        }
        web.rankLevels();
        return web.levelRow[unit];
    }

    public int idle(int k) {
        if (k < 0) {
            return NONE;
        }
        woven();
        int passed = 0;
        for (int t = 0; t < site.ties; t++) {
            if (!web.isReduced(site.upper[t], site.lower[t])) {
                if (passed == k) {
                    return site.tieTold(t);
                }
                passed++;
            }
        }
        return ABSENT;
    }

    public int proof(int k) {
        if (k < 0) {
            return NONE;
        }
        verdict.examine(site, woven());
        return k < verdict.size ? verdict.numbers[k] : ABSENT;
    }

    // ---- phases, dates

    public int over(int p, int q) {
        if (!isPhase(p) || !isPhase(q) || p == q) {
            return NONE;
        }
        woven();
        return isOver(p, q) ? 1 : 0;
    }

    public int rank(int phase) {
        if (!isPhase(phase)) {
            return NONE;
        }
        woven();
        int found = phasesUnder(phase);
        // A chain through all phases has five steps, so five rounds find every end of one.
        for (int round = 1; round < PHASES; round++) {
            for (int p = 0; p < PHASES; p++) {
                if (hasBit(found, p)) {
                    found |= phasesUnder(p);
                }
            }
        }
        return Integer.bitCount(found & ~(1 << phase));
    }

    public int bounds(int unit, int what) {
        if (!site.isUnit(unit) || what < 0 || what > 1) {
            return NONE;
        }
        if (woven().hasCycle()) {
            return STATE;
        }
        return what == 0 ? web.earliest(site, unit) : web.latest(site, unit);
    }

    public long middle(int unit) {
        if (!site.isUnit(unit) || woven().hasCycle()) {
            return NO;
        }
        return bitsOfDouble(middleOf(unit));
    }

    public int rate(int unit) {
        if (!site.isUnit(unit)) {
            return NONE;
        }
        if (woven().hasCycle()) {
            return STATE;
        }
        int years = web.latest(site, unit) - web.earliest(site, unit) + 1;
        if (years < 1) {
            return 0;
        }
        return bitsOfFloat((float) site.trait(THICK, unit) / (float) years);
    }

    public long age(int phase, int what) {
        if (!isPhase(phase) || what < 0 || what > 1) {
            return NO;
        }
        if (site.unitsOfPhase(phase) == 0 || woven().hasCycle()) {
            return NO;
        }
        double years = ageOf(phase);
        return what == 0 ? bitsOfDouble(years) : (long) (years + 0.5);
    }

    // ---- in deed

    public int dig(int unit) {
        if (!site.isUnit(unit)) {
            return NONE;
        }
        if (site.isDug(unit) || (woven().above[unit] & ~site.dugUnits()) != 0) {
            return STATE;
        }
        site.addDug(unit);
        return site.digs;
    }

    public int lay() {
        if (site.digs == 0) {
            return STATE;
        }
        site.digs--;
        return site.digRow[site.digs];
    }

    public int dug(int k) {
        if (k < 0) {
            return NONE;
        }
        return k < site.digs ? site.digRow[k] : ABSENT;
    }

    public long orders() {
        return lawfulOrders(site);
    }

    public int order(long k, int i) {
        if (k < 0 || k >= lawfulOrders(site) || i < 0 || i >= site.units - site.digs) {
            return NONE;
        }
        return ways.unitOfOrder(k, i);
    }

    public int tray(int tray, int place, int unit) {
        if (!isTray(tray) || (unit != -1 && !site.isUnit(unit))) {
            return NONE;
        }
        if (!isPlace(place)) {
            return PLACE;
        }
        if (unit != -1 && !takes(tray, site.trait(KIND, unit))) {
            return CAST;
        }
        int spot = tray * PLACES + place;
        int was = site.heldUnit[spot];
        site.heldUnit[spot] = unit;
        site.heldKind[spot] = unit == -1 ? -1 : site.trait(KIND, unit);
        return was == -1 ? ABSENT : was;
    }

    public int held(int tray, int place, int what) {
        if (!isTray(tray) || what < 0 || what > 1) {
            return NONE;
        }
        if (!isPlace(place)) {
            return PLACE;
        }
        int spot = tray * PLACES + place;
        if (site.heldUnit[spot] == -1) {
            return ABSENT;
        }
        return what == 0 ? site.heldUnit[spot] : site.heldKind[spot];
    }

    // ---- words, drawings

    public int feed(int sign) {
        if (sign < 0 || sign > 127) {
            return BAD;
        }
        if (words.length >= MOST_TEXT) {
            return FULL;
        }
        words.text[words.length] = sign;
        words.length++;
        return words.length;
    }

    public int read() {
        int fault = words.parse();
        words.length = 0;
        if (fault != 0) {
            return fault;
        }
        int done = 0;
        for (int s = 0; s < words.sentences; s++) {
            if (obeys(words.verb[s], words.first[s], words.second[s])) {
                done++;
            }
        }
        return done;
    }

    public int draw(int how) {
        if (how < 0 || how > 1) {
            return NONE;
        }
        woven();
        if (how == 0) {
            sheet.drawTies(web);
        } else if (web.hasCycle()) {
            sheet.drawCycle(web);
        } else {
            sheet.drawLevels(web);
        }
        return sheet.length;
    }

    public int paper(int i) {
        if (i < 0) {
            return NONE;
        }
        return i < sheet.length ? sheet.bytes[i] : ABSENT;
    }

    // ---- seen, events

    public int see(int a, int b, boolean is) {
        if (a == -1) {
            site.sights = 0;
            return 0;
        }
        if (!site.isUnit(a) || !site.isUnit(b)) {
            return NONE;
        }
        if (site.sights >= MOST_SEEN) {
            return FULL;
        }
        site.addSeen(a, b, is);
        return site.sights;
    }

    public int fits(int what) {
        if (what < 0 || what > 1) {
            return NONE;
        }
        int fitting = 0;
        for (int t = 0; t < site.ties; t++) {
            web.weave(site, t);
            if (web.agrees(site)) {
                if (what == 1) {
                    return site.tieTold(t);
                }
                fitting++;
            }
        }
        return what == 0 ? fitting : ABSENT;
    }

    public int event(int what, int n) {
        if (what == -1) {
            site.events = 0;
            return 0;
        }
        if (what < 0 || what > 3 || !site.isUnit(n)) {
            return NONE;
        }
        if (site.events >= MOST_EVENTS) {
            return FULL;
        }
        site.addEvent(what, n);
        return site.events;
    }

    public long after(int what) {
        if (what < 0 || what > 1) {
            return NO;
        }
        trial.become(site);
        trial.happen();
        if (what == 0) {
            return lawfulOrders(trial);
        }
        web.weave(trial, -1);
        return web.hasCycle() ? ABSENT : Integer.bitCount(web.crossing(trial));
    }

    // ---- judging, the image, tapes

    public int judge(int tape, int i) {
        if (!reels.isTape(tape)) {
            return NONE;
        }
        if (!reels.isEmpty(tape) && reels.sort[tape] != SHORTS) {
            return CAST;
        }
        if (woven().hasCycle()) {
            return STATE;
        }
        for (int u = 0; u < site.units; u++) {
            // A place far off is turned away first, so that the sum can't wrap round.
            if (i > TAPE_ROOM || !reels.hasPlace(tape, i + u, 1)) {
                return 100 + u;
            }
            if (reels.at(tape, i + u) != web.earliest(site, u)) {
                return u;
            }
        }
        return ABSENT;
    }

    public int image() {
        picture.become(site);
        pictured = true;
        return site.units;
    }

    public int undo() {
        if (!pictured) {
            return STATE;
        }
        site.become(picture);
        return site.units;
    }

    public int count(int what) {
        switch (what) {
            case 0: return site.sights;
            case 1: return site.events;
            case 2: return words.length;
            case 3: return sheet.length;
            default: return BAD;
        }
    }

    public int tape(int tape, int sort, int n) {
        if (!reels.isTape(tape)) {
            return NONE;
        }
        if (sort == -1) {
            reels.clear(tape);
            return 1;
        }
        if (sort < 0 || sort > 4 || n > TAPE_ROOM) {
            return BAD;
        }
        if (n < 0) {
            return SIZE;
        }
        reels.make(tape, sort, n);
        return 1;
    }

    public int item(int tape, int i, long v) {
        if (!reels.isTape(tape)) {
            return NONE;
        }
        if (reels.isEmpty(tape)) {
            return NOTHING;
        }
        if (!reels.hasPlace(tape, i, 1)) {
            return PLACE;
        }
        reels.put(tape, i, v);
        return 1;
    }

    public long peek(int tape, int i) {
        if (!reels.isTape(tape) || reels.isEmpty(tape) || !reels.hasPlace(tape, i, 1)) {
            return NO;
        }
        return reels.at(tape, i);
    }

    public int shift(int tape, int i, int other, int j, int n) {
        if (!reels.isTape(tape) || !reels.isTape(other)) {
            return NONE;
        }
        if (reels.isEmpty(tape) || reels.isEmpty(other)) {
            return NOTHING;
        }
        if (reels.sort[tape] != reels.sort[other]) {
            return CAST;
        }
        if (!reels.hasPlace(tape, i, n) || !reels.hasPlace(other, j, n)) {
            return PLACE;
        }
        reels.move(tape, i, other, j, n);
        return n;
    }

    // ---- what the calls share

    private static boolean hasBit(int bits, int number) {
        return (bits >> number & 1) == 1;
    }

    private static boolean isPhase(int phase) {
        return phase >= 0 && phase < PHASES;
    }

    private static boolean isTray(int tray) {
        return tray >= 0 && tray < TRAYS;
    }

    private static boolean isPlace(int place) {
        return place >= 0 && place < PLACES;
    }

    private static boolean isCut(int kind) {
        return kind == CUT || kind == PIT;
    }

    private static boolean isFill(int kind) {
        return kind == FILL || kind == HEARTH;
    }

    private static boolean takes(int tray, int kind) {
        if (tray == 1) {
            return isCut(kind);
        }
        return tray == 0 || kind == WALL;
    }

    private boolean isPair(int a, int b) {
        return site.isUnit(a) && site.isUnit(b) && a != b;
    }

    private int traitTold(int unit, int what) {
        int v = site.trait(what, unit);
        return what == PHASE && v == -1 ? ABSENT : v;
    }

    /** The web of the ties as they stand now. */
    private Web woven() {
        web.weave(site, -1);
        return web;
    }

    private int phasesInUse() {
        int bits = 0;
        for (int p = 0; p < PHASES; p++) {
            if (site.unitsOfPhase(p) != 0) {
                bits |= 1 << p;
            }
        }
        return bits;
    }

    private boolean isOver(int p, int q) {
        return web.phaseReaches(site, p, q) && !web.phaseReaches(site, q, p);
    }

    private int phasesUnder(int p) {
        int bits = 0;
        for (int q = 0; q < PHASES; q++) {
            if (q != p && isOver(p, q)) {
                bits |= 1 << q;
            }
        }
        return bits;
    }

    private double middleOf(int unit) {
        return ((double) web.earliest(site, unit) + (double) web.latest(site, unit)) / 2.0;
    }

    private double ageOf(int phase) {
        double sum = 0.0;
        int weight = 0;
        for (int u = 0; u < site.units; u++) {
            if (site.trait(PHASE, u) == phase) {
                sum += middleOf(u) * (double) site.trait(THICK, u);
                weight += site.trait(THICK, u);
            }
        }
        return weight == 0 ? 0.0 : sum / (double) weight;
    }

    private long lawfulOrders(Site s) {
        web.weave(s, -1);
        if (web.hasCycle()) {
            return 0;
        }
        return ways.number(web.above, s.allUnits() & ~s.dugUnits());
    }

    /** Does a sentence; one that would be refused leaves all as it was. */
    private boolean obeys(int verb, int first, int second) {
        if (verb == VERB_JOINS) {
            return joinsPhase(first, second);
        }
        int ties = verb == VERB_UNDER ? tie(second, first) : tie(first, second);
        if (ties < 0) {
            return false;
        }
        if (verb == VERB_CUTS) {
            site.putTrait(KIND, first, CUT);
        } else if (verb == VERB_FILLS) {
            site.putTrait(KIND, first, FILL);
        }
        return true;
    }

    private boolean joinsPhase(int first, int second) {
        if (!site.isUnit(first) || !site.isUnit(second)) {
            return false;
        }
        site.putTrait(PHASE, first, site.trait(PHASE, second));
        return true;
    }

    /**
     * The bits of a double that is 0.0 or an ordinary positive one (the others don't come up
     * here). Halving and doubling lose nothing, so the bits are exact.
     */
    private static long bitsOfDouble(double x) {
        if (!(x > 0.0)) {
            return 0L;
        }
        double part = x;
        long power = 1023;
        for (int step = 0; step < 1100 && part >= 2.0; step++) {
            part = part / 2.0;
            power++;
        }
        for (int step = 0; step < 1100 && part < 1.0; step++) {
            part = part * 2.0;
            power--;
        }
        return power << 52 | (long) ((part - 1.0) * 4503599627370496.0);
    }

    /** The bits of a float, told as those of a double are. */
    private static int bitsOfFloat(float x) {
        if (!(x > 0.0f)) {
            return 0;
        }
        float part = x;
        int power = 127;
        for (int step = 0; step < 200 && part >= 2.0f; step++) {
            part = part / 2.0f;
            power++;
        }
        for (int step = 0; step < 200 && part < 1.0f; step++) {
            part = part * 2.0f;
            power--;
        }
        return power << 23 | (int) ((part - 1.0f) * 8388608.0f);
    }

    /** All that the image holds: units, ties, trays, what was dug, what is seen, events. */
    private static final class Site {
        int units = 0;
        int ties = 0;
        int digs = 0;
        int sights = 0;
        int events = 0;
        final int[] traits = new int[TRAITS * MOST_UNITS];
        final int[] upper = new int[MOST_TIES];
        final int[] lower = new int[MOST_TIES];
        final int[] digRow = new int[MOST_UNITS];
        final int[] heldUnit = new int[TRAYS * PLACES];
        final int[] heldKind = new int[TRAYS * PLACES];
        final int[] seenFirst = new int[MOST_SEEN];
        final int[] seenSecond = new int[MOST_SEEN];
        final boolean[] seenIs = new boolean[MOST_SEEN];
        final int[] eventWhat = new int[MOST_EVENTS];
        final int[] eventUnit = new int[MOST_EVENTS];

        Site() {
            for (int spot = 0; spot < TRAYS * PLACES; spot++) {
                heldUnit[spot] = -1;
                heldKind[spot] = -1;
            }
        }

        boolean isUnit(int unit) {
            return unit >= 0 && unit < units;
        }

        int allUnits() {
            return (1 << units) - 1;
        }

        int trait(int what, int unit) {
            return traits[what * MOST_UNITS + unit];
        }

        void putTrait(int what, int unit, int v) {
            traits[what * MOST_UNITS + unit] = v;
        }

        int addUnit(int kind) {
            int unit = units;
            units++;
            putTrait(KIND, unit, kind);
            putTrait(THICK, unit, 1);
            putTrait(FROM, unit, LEAST[FROM]);
            putTrait(TO, unit, GREATEST[TO]);
            putTrait(PHASE, unit, -1);
            return unit;
        }

        int unitsOfPhase(int phase) {
            int bits = 0;
            for (int u = 0; u < units; u++) {
                if (trait(PHASE, u) == phase) {
                    bits |= 1 << u;
                }
            }
            return bits;
        }

        int tieNumber(int a, int b) {
            for (int t = 0; t < ties; t++) {
                if (upper[t] == a && lower[t] == b) {
                    return t;
                }
            }
            return -1;
        }

        int tieTold(int t) {
            return 100 * upper[t] + lower[t];
        }

        void addTie(int a, int b) {
            upper[ties] = a;
            lower[ties] = b;
            ties++;
        }

        /** The ties behind it close up, as it matters in which order they came. */
        void dropTie(int number) {
            ties--;
            for (int t = number; t < ties; t++) {
                upper[t] = upper[t + 1];
                lower[t] = lower[t + 1];
            }
        }

        void dropTiesFrom(int unit) {
            for (int t = ties - 1; t >= 0; t--) {
                if (upper[t] == unit) {
                    dropTie(t);
                }
            }
        }

        int dugUnits() {
            int bits = 0;
            for (int k = 0; k < digs; k++) {
                bits |= 1 << digRow[k];
            }
            return bits;
        }

        boolean isDug(int unit) {
            return hasBit(dugUnits(), unit);
        }

        void addDug(int unit) {
            if (digs < MOST_UNITS && !isDug(unit)) {
                digRow[digs] = unit;
                digs++;
            }
        }

        void addSeen(int a, int b, boolean is) {
            seenFirst[sights] = a;
            seenSecond[sights] = b;
            seenIs[sights] = is;
            sights++;
        }

        void addEvent(int what, int unit) {
            eventWhat[events] = what;
            eventUnit[events] = unit;
            events++;
        }

        /** All events take place here, one behind the other. */
        void happen() {
            for (int e = 0; e < events; e++) {
                int unit = eventUnit[e];
                switch (eventWhat[e]) {
                    case 0: addDug(unit); break;
                    case 1: dropTiesFrom(unit); break;
                    case 2: putTrait(FROM, unit, 1000); break;
                    default: putTrait(TO, unit, 1000); break;
                }
            }
        }

        void become(Site other) {
            units = other.units;
            ties = other.ties;
            digs = other.digs;
            sights = other.sights;
            events = other.events;
            copyRow(other.traits, traits);
            copyRow(other.upper, upper);
            copyRow(other.lower, lower);
            copyRow(other.digRow, digRow);
            copyRow(other.heldUnit, heldUnit);
            copyRow(other.heldKind, heldKind);
            copyRow(other.seenFirst, seenFirst);
            copyRow(other.seenSecond, seenSecond);
            System.arraycopy(other.seenIs, 0, seenIs, 0, MOST_SEEN);
            copyRow(other.eventWhat, eventWhat);
            copyRow(other.eventUnit, eventUnit);
        }

        private static void copyRow(int[] source, int[] target) {
            System.arraycopy(source, 0, target, 0, Math.min(source.length, target.length));
        }
    }

    /** What follows from the ties of a site; sets of units are bits. */
    private static final class Web {
        int units = 0;
        final int[] under = new int[MOST_UNITS];
        final int[] above = new int[MOST_UNITS];
        final int[] reach = new int[MOST_UNITS];
        final int[] levelRow = new int[MOST_UNITS];
        final int[] shown = new int[MOST_UNITS];
        /** By steps: the units from which so many lead back to the first of the cycle. */
        final int[] stepsBack = new int[MOST_UNITS + 1];

        /** @param without the number of a tie that is left out, or -1 */
        void weave(Site site, int without) {
            units = site.units;
            for (int u = 0; u < MOST_UNITS; u++) {
                under[u] = 0;
                above[u] = 0;
            }
            for (int t = 0; t < site.ties; t++) {
                if (t != without) {
                    under[site.upper[t]] |= 1 << site.lower[t];
                    above[site.lower[t]] |= 1 << site.upper[t];
                }
            }
            closeChains();
        }

        private void closeChains() {
            for (int u = 0; u < units; u++) {
                reach[u] = under[u];
            }
            for (int by = 0; by < units; by++) {
                for (int u = 0; u < units; u++) {
                    if (hasBit(reach[u], by)) {
                        reach[u] |= reach[by];
                    }
                }
            }
        }

        int selfReachers() {
            int bits = 0;
            for (int u = 0; u < units; u++) {
                bits |= reach[u] & 1 << u;
            }
            return bits;
        }

        boolean hasCycle() {
            return selfReachers() != 0;
        }

        int reachersOf(int unit) {
            int bits = 0;
            for (int u = 0; u < units; u++) {
                if (hasBit(reach[u], unit)) {
                    bits |= 1 << u;
                }
            }
            return bits;
        }

        /** A way round goes through a unit right below, so those alone are looked at. */
        int reducedUnder(int unit) {
            if (hasCycle()) {
                return under[unit];
            }
            int roundabout = 0;
            for (int u = 0; u < units; u++) {
                if (hasBit(under[unit], u)) {
                    roundabout |= reach[u];
                }
            }
            return under[unit] & ~roundabout;
        }

        boolean isReduced(int a, int b) {
            return hasBit(reducedUnder(a), b);
        }

        int reducedTies() {
            int sum = 0;
            for (int u = 0; u < units; u++) {
                sum += Integer.bitCount(reducedUnder(u));
            }
            return sum;
        }

        /** Levels are taken away from the bottom up (there is no cycle): how many there are. */
        int rankLevels() {
            int left = (1 << units) - 1;
            int levels = 0;
            for (int round = 0; round < units && left != 0; round++) {
                int bottom = 0;
                for (int u = 0; u < units; u++) {
                    if (hasBit(left, u) && (under[u] & left) == 0) {
                        bottom |= 1 << u;
                        levelRow[u] = levels;
                    }
                }
                left &= ~bottom;
                levels++;
            }
            return levels;
        }

        /** Writes the shown cycle: how many units are in it. */
        int showCycle() {
            if (!hasCycle()) {
                return 0;
            }
            int at = leastOf(selfReachers());
            int length = stepsRound(at);
            shown[0] = at;
            for (int i = 1; i < length; i++) {
                at = leastOf(under[at] & stepsBack[length - i]);
                shown[i] = at;
            }
            return length;
        }

        private int stepsRound(int first) {
            int known = 1 << first;
            stepsBack[0] = known;
            for (int steps = 1; steps <= units; steps++) {
                if ((under[first] & stepsBack[steps - 1]) != 0) {
                    return steps;
                }
                stepsBack[steps] = rightAbove(stepsBack[steps - 1]) & ~known;
                known |= stepsBack[steps];
            }
            return 0;
        }

        private int rightAbove(int bits) {
            int found = 0;
            for (int u = 0; u < units; u++) {
                if ((under[u] & bits) != 0) {
                    found |= 1 << u;
                }
            }
            return found;
        }

        private static int leastOf(int bits) {
            for (int u = 0; u < MOST_UNITS; u++) {
                if (hasBit(bits, u)) {
                    return u;
                }
            }
            return 0;
        }

        boolean agrees(Site site) {
            for (int s = 0; s < site.sights; s++) {
                if (hasBit(reach[site.seenFirst[s]], site.seenSecond[s]) != site.seenIs[s]) {
                    return false;
                }
            }
            return true;
        }

        boolean phaseReaches(Site site, int p, int q) {
            return firstOfPhaseReaching(site, p, q) >= 0;
        }

        /** The least unit of a phase that reaches one of another; -1: none does. */
        int firstOfPhaseReaching(Site site, int p, int q) {
            int targets = site.unitsOfPhase(q);
            for (int u = 0; u < units; u++) {
                if (site.trait(PHASE, u) == p && (reach[u] & targets) != 0) {
                    return u;
                }
            }
            return -1;
        }

        int earliest(Site site, int unit) {
            int year = site.trait(FROM, unit);
            for (int u = 0; u < units; u++) {
                if (hasBit(reach[unit], u)) {
                    year = Math.max(year, site.trait(FROM, u));
                }
            }
            return year;
        }

        int latest(Site site, int unit) {
            int year = site.trait(TO, unit);
            for (int u = 0; u < units; u++) {
                if (hasBit(reach[u], unit)) {
                    year = Math.min(year, site.trait(TO, u));
                }
            }
            return year;
        }

        int crossing(Site site) {
            int bits = 0;
            for (int u = 0; u < units; u++) {
                if (earliest(site, u) > latest(site, u)) {
                    bits |= 1 << u;
                }
            }
            return bits;
        }
    }

    /** The proof: its fault, the cause of it and the cause of that, as far as there are such. */
    private static final class Verdict {
        final int[] numbers = new int[3];
        int size = 0;

        void examine(Site site, Web web) {
            size = 0;
            if (web.hasCycle()) {
                int length = web.showCycle();
                write(1, web.shown[0], length);
                return;
            }
            if (findsBareFill(site, web) || findsMixedPhases(site, web) || findsCrossing(site, web)) {
                return;
            }
            numbers[0] = 0;
            size = 1;
        }

        private void write(int fault, int cause, int deeper) {
            numbers[0] = fault;
            numbers[1] = cause;
            numbers[2] = deeper;
            size = 3;
        }

        private boolean findsBareFill(Site site, Web web) {
            int cuts = 0;
            for (int u = 0; u < site.units; u++) {
                if (isCut(site.trait(KIND, u))) {
                    cuts |= 1 << u;
                }
            }
            for (int u = 0; u < site.units; u++) {
                if (isFill(site.trait(KIND, u)) && (web.reducedUnder(u) & cuts) == 0) {
                    write(2, u, 0);
                    // This fault's cause has none of its own.
                    size = 2;
                    return true;
                }
            }
            return false;
        }

        private boolean findsMixedPhases(Site site, Web web) {
            for (int p = 0; p < PHASES; p++) {
                for (int q = p + 1; q < PHASES; q++) {
                    int u = web.firstOfPhaseReaching(site, p, q);
                    if (u >= 0 && web.phaseReaches(site, q, p)) {
                        int reached = Web.leastOf(web.reach[u] & site.unitsOfPhase(q));
                        write(3, 10 * p + q, 100 * u + reached);
                        return true;
                    }
                }
            }
            return false;
        }

        private boolean findsCrossing(Site site, Web web) {
            int crossing = web.crossing(site);
            if (crossing == 0) {
                return false;
            }
            int u = Web.leastOf(crossing);
            write(4, u, web.earliest(site, u) - web.latest(site, u));
            return true;
        }
    }

    /** In how many ways each set of units that are left can be dug. */
    private static final class Ways {
        final long[] table = new long[1 << MOST_UNITS];
        final int[] blockers = new int[MOST_UNITS];
        /** The units that the table was made for; -1: it wasn't yet. */
        int left = -1;

        /** Only ties among those left hold one back; the table stays while these do. */
        long number(int[] above, int leftNow) {
            boolean same = left == leftNow;
            left = leftNow;
            for (int u = 0; u < MOST_UNITS; u++) {
                int holding = hasBit(leftNow, u) ? above[u] & leftNow : 0;
                same = same && blockers[u] == holding;
                blockers[u] = holding;
            }
            if (!same) {
                fillTable();
            }
            return table[left];
        }

        private void fillTable() {
            table[0] = 1;
            int set = 0;
            for (int step = 0; step < table.length && set != left; step++) {
                // The next greater set of units out of those left.
                set = (set - left) & left;
                table[set] = sumOver(set);
            }
        }

        /** The dearest loop of all, so it asks for bits in place. */
        private long sumOver(int set) {
            long sum = 0;
            int rest = set;
            for (int u = 0; u < MOST_UNITS && rest != 0; u++) {
                if ((rest & 1) == 1 && (blockers[u] & set) == 0) {
                    sum += table[set & ~(1 << u)];
                }
                rest >>= 1;
            }
            return sum;
        }

        private boolean isFree(int set, int u) {
            return hasBit(set, u) && (blockers[u] & set) == 0;
        }

        /** The table is made and both numbers are looked at. */
        int unitOfOrder(long k, int i) {
            long ahead = k;
            int set = left;
            int unit = NONE;
            for (int step = 0; step <= i; step++) {
                unit = NONE;
                for (int u = 0; u < MOST_UNITS && unit == NONE; u++) {
                    if (isFree(set, u)) {
                        long ways = table[set & ~(1 << u)];
                        if (ahead < ways) {
                            unit = u;
                        } else {
                            ahead -= ways;
                        }
                    }
                }
                if (unit == NONE) {
                    return NONE;
                }
                set &= ~(1 << unit);
            }
            return unit;
        }
    }

    /** The text, and the sentences that are read from it. */
    private static final class Words {
        final int[] text = new int[MOST_TEXT];
        int length = 0;
        final int[] first = new int[MOST_SENTENCES];
        final int[] verb = new int[MOST_SENTENCES];
        final int[] second = new int[MOST_SENTENCES];
        int sentences = 0;
        private int at = 0;
        private int fault = 0;

        /** 0, or the fault as it is told. */
        int parse() {
            at = 0;
            fault = 0;
            sentences = 0;
            takeSentence();
            for (int s = 1; s < MOST_SENTENCES && fault == 0 && at < length; s++) {
                takeSign(';');
                takeSentence();
            }
            // Behind the eighth sentence nothing may stand, not even what parts it from a ninth.
            if (fault == 0 && at < length) {
                fault = -100 - at;
            }
            return fault;
        }

        private void takeSentence() {
            int one = takeLetter();
            takeSign(' ');
            int said = takeVerb();
            takeSign(' ');
            int other = takeLetter();
            if (fault == 0 && sentences < MOST_SENTENCES) {
                first[sentences] = one;
                verb[sentences] = said;
                second[sentences] = other;
                sentences++;
            }
        }

        private void takeSign(int sign) {
            if (fault != 0) {
                return;
            }
            if (at < length && text[at] == sign) {
                at++;
            } else {
                fault = -100 - at;
            }
        }

        private int takeLetter() {
            if (fault != 0) {
                return 0;
            }
            if (at >= length || text[at] < 'a' || text[at] > 'l') {
                fault = -100 - at;
                return 0;
            }
            at++;
            return text[at - 1] - 'a';
        }

        private int takeVerb() {
            if (fault != 0) {
                return 0;
            }
            int end = at;
            while (end < length && text[end] >= 'a' && text[end] <= 'z') {
                end++;
            }
            int found = verbOf(at, end);
            if (end == at) {
                fault = -100 - at;
            } else if (found < 0) {
                fault = -300 - at;
            }
            at = end;
            return found;
        }

        private int verbOf(int from, int to) {
            if (says("over", from, to)) {
                return VERB_OVER;
            }
            if (says("under", from, to)) {
                return VERB_UNDER;
            }
            if (says("cuts", from, to)) {
                return VERB_CUTS;
            }
            if (says("fills", from, to)) {
                return VERB_FILLS;
            }
            return says("joins", from, to) ? VERB_JOINS : -1;
        }

        private boolean says(String word, int from, int to) {
            if (word.length() != to - from) {
                return false;
            }
            for (int i = 0; i < word.length(); i++) {
                if (word.charAt(i) != text[from + i]) {
                    return false;
                }
            }
            return true;
        }
    }

    /** The paper. */
    private static final class Sheet {
        final int[] bytes = new int[PAPER_ROOM];
        int length = 0;

        private void write(int sign) {
            if (length < PAPER_ROOM) {
                bytes[length] = sign;
                length++;
            }
        }

        private void writeUnit(int unit) {
            write('a' + unit);
        }

        private void writeBetween(int sign) {
            if (length > 0) {
                write(sign);
            }
        }

        void drawTies(Web web) {
            length = 0;
            for (int a = 0; a < web.units; a++) {
                int under = web.reducedUnder(a);
                for (int b = 0; b < web.units; b++) {
                    if (hasBit(under, b)) {
                        writeBetween(';');
                        writeUnit(a);
                        write('>');
                        writeUnit(b);
                    }
                }
            }
        }

        void drawLevels(Web web) {
            length = 0;
            for (int level = web.rankLevels() - 1; level >= 0; level--) {
                writeBetween('|');
                for (int u = 0; u < web.units; u++) {
                    if (web.levelRow[u] == level) {
                        writeUnit(u);
                    }
                }
            }
        }

        void drawCycle(Web web) {
            length = 0;
            int size = web.showCycle();
            for (int i = 0; i < size; i++) {
                writeUnit(web.shown[i]);
                write('>');
            }
            writeUnit(web.shown[0]);
        }
    }

    /** The tapes; the items of all of them stand in one row. */
    private static final class Reels {
        final int[] sort = new int[TAPES];
        final int[] length = new int[TAPES];
        final long[] items = new long[TAPES * TAPE_ROOM];

        Reels() {
            for (int tape = 0; tape < TAPES; tape++) {
                sort[tape] = -1;
            }
        }

        boolean isTape(int tape) {
            return tape >= 0 && tape < TAPES;
        }

        boolean isEmpty(int tape) {
            return sort[tape] == -1;
        }

        /** Whether n items from a place on are there; no sum is made, as one might wrap round. */
        boolean hasPlace(int tape, int i, int n) {
            return i >= 0 && n >= 0 && n <= length[tape] && i <= length[tape] - n;
        }

        void clear(int tape) {
            sort[tape] = -1;
            length[tape] = 0;
        }

        void make(int tape, int kind, int n) {
            sort[tape] = kind;
            length[tape] = n;
            for (int i = 0; i < n; i++) {
                items[tape * TAPE_ROOM + i] = 0;
            }
        }

        long at(int tape, int i) {
            return items[tape * TAPE_ROOM + i];
        }

        void put(int tape, int i, long v) {
            items[tape * TAPE_ROOM + i] = cutDown(sort[tape], v);
        }

        private static long cutDown(int kind, long v) {
            switch (kind) {
                case 0: return (byte) v;
                case 1: return (short) v;
                case 2: return (int) v;
                case 3: return v;
                default: return v != 0 ? 1 : 0;
            }
        }

        void move(int tape, int i, int other, int j, int n) {
            System.arraycopy(items, tape * TAPE_ROOM + i, items, other * TAPE_ROOM + j, n);
        }
    }
}
