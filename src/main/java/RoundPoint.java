import java.util.Arrays;

/**
 * Round the point between tides: ways along a coast that the sea opens and shuts.
 * Numbers in capitals (TIDE, WIND, STATE, ..) are the document's terms.
 */
public final class RoundPoint {
    public static final int BAD = -1, NOT = -2, FULL = -3, STATE = -5, VOID = -2000000000;

    private static final int NOTHING_THERE = -11, OTHER_KIND = -12, NO_PLACE_THERE = -13, SIZE_BELOW_ZERO = -14;
    private static final int DAY = 1440, LAST_MINUTE = 1439;
    private static final int MOST_BYTES = 120, MOST_POINTS = 12, MINUTE_DIGITS = 4, HEIGHT_DIGITS = 3;
    private static final int MOST_TIDES = 10, MOST_WINDS = 5, MOST_PLACES = 12, MOST_WAYS = 24, SORTS = 4;
    private static final int MOST_HEIGHT = 999, MOST_LENGTH = 90, WEARIEST = 3, MOST_LIFT = 200;
    private static final int MOST_MOVES = 12, MOST_MARKS = 6, MOST_CHANGES = 40;
    private static final int WAIT_FROM = 100, LONGEST_WAIT = 240;
    private static final int MOST_BODIES = 50, KINDS = 7, ACTS = 4, TRACE_KEPT = 24;
    private static final int SHELVES = 6, MOST_ELEMENTS = 60;
    private static final int HEIGHT = 0, FIRST_HOUR = 1, LAST_HOUR = 2, SAFE = 3, HUNDREDTHS = 4;

    private final Tape tape = new Tape();
    private final Coast coast = new Coast();
    private final Sea water = new Sea(coast);
    private final Search search = new Search(coast, water);
    private final Plan plan = new Plan(coast, water);
    private final Changes changes = new Changes(coast);
    private final Bodies bodies = new Bodies();
    private final Shelf[] shelves = new Shelf[SHELVES];
    private final int[] marks = new int[MOST_MARKS];
    private int markCount;

    public RoundPoint() {
        for (int i = 0; i < SHELVES; i++) {
            shelves[i] = new Shelf();
        }
    }

    // ---- the coast

    public int feed(int n, int v) {
        if (n < 1 || n > 4) {
            return BAD;
        }
        return tape.add(n, v) ? tape.length : FULL;
    }

    public int tide() {
        if (coast.tides >= MOST_TIDES) {
            return FULL;
        }
        int fault = tape.read();
        tape.length = 0;
        if (fault >= 0) {
            return -100 - fault;
        }
        return coast.addTide(tape.minutes, tape.heights, tape.points);
    }

    public int wind(int lifts, int early, int chance) {
        if (!within(lifts, -99, 99) || !within(early, -60, 60) || !within(chance, 1, 99)) {
            return BAD;
        }
        return coast.winds >= MOST_WINDS ? FULL : coast.addWind(lifts, early, chance);
    }

    public int sea(int tide, int wind, int minute) {
        if (!within(tide, 0, coast.tides - 1) || !within(wind, 0, coast.winds - 1) || !isMinute(minute)) {
            return VOID;
        }
        return coast.seaAt(tide, wind, minute);
    }

    public int place(int safe) {
        if (!within(safe, 0, MOST_HEIGHT)) {
            return BAD;
        }
        if (coast.places >= MOST_PLACES) {
            return FULL;
        }
        coast.safes[coast.places] = safe;
        coast.places++;
        return coast.places - 1;
    }

    public int way(int ft, int mh) {
        if (!isPair(ft) || mh < 0 || !within(mh / 1000, 1, MOST_LENGTH)) {
            return BAD;
        }
        return coast.ways >= MOST_WAYS ? FULL : coast.addWay(ft / 100, ft % 100, mh / 1000, mh % 1000);
    }

    public int safe(int place, int v) {
        if (!isPlace(place) || !within(v, 0, MOST_HEIGHT)) {
            return BAD;
        }
        return changes.tell(SAFE, place, v);
    }

    public int alter(int way, int what, int v) {
        if (!isWay(way) || !within(what, HEIGHT, LAST_HOUR)) {
            return BAD;
        }
        if (!within(v, 0, what == HEIGHT ? MOST_HEIGHT : LAST_MINUTE)) {
            return BAD;
        }
        if (what == FIRST_HOUR && v > coast.lastHours[way] || what == LAST_HOUR && v < coast.firstHours[way]) {
            return BAD;
        }
        return changes.tell(what, way, v);
    }

    public int sort(int sort, int v) {
        if (!isSort(sort) || !within(v, 50, 400)) {
            return BAD;
        }
        return changes.tell(HUNDREDTHS, sort, v);
    }

    public int light(int what, int v) {
        if (!within(what, 0, 1) || !isMinute(v) || (what == 0 ? v > coast.dark : v < coast.dawn)) {
            return BAD;
        }
        int was;
        if (what == 0) {
            was = coast.dawn;
            coast.dawn = v;
        } else {
            was = coast.dark;
            coast.dark = v;
        }
        return was;
    }

    public int takes(int way, int sort, int weary) {
        if (!isWay(way) || !isSort(sort) || !within(weary, 0, WEARIEST)) {
            return BAD;
        }
        return coast.taking(way, sort, weary);
    }

    // ---- reached

    public int open(int way, int st, int winds, int what) {
        if (!isWay(way) || !isSortAndTide(st) || !isWinds(winds) || !within(what, 0, 2)) {
            return BAD;
        }
        water.rise(st % 10, winds);
        int count = 0;
        int first = NOT;
        int last = NOT;
        for (int m = coast.firstHours[way]; m <= coast.lastHours[way]; m++) {
            if (plan.wayGoes(way, m, st / 10, 0)) {
                count++;
                first = first == NOT ? m : first;
                last = m;
            }
        }
        return what == 0 ? count : what == 1 ? first : last;
    }

    public int soon(int fm, int to, int st, int winds) {
        if (!isFrom(fm) || !isPlace(to) || !isSortAndTide(st) || !isWinds(winds)) {
            return BAD;
        }
        search.prepare(st, winds);
        return search.soonest(fm, to, LAST_MINUTE);
    }

    public int last(int ft, int st, int winds) {
        if (!isPair(ft) || !isSortAndTide(st) || !isWinds(winds)) {
            return BAD;
        }
        search.prepare(st, winds);
        return search.latest(ft / 100, ft % 100);
    }

    public int best(int fm, int to, int st, int what) {
        if (!isFrom(fm) || !isPlace(to) || !isSortAndTide(st) || !within(what, 0, 1)) {
            return BAD;
        }
        int set = bestSet(fm, to, st);
        return what == 1 ? set : coast.thousandths(set);
    }

    public int days(int ft, int sort, int what) {
        if (!isPair(ft) || !isSort(sort) || !within(what, 0, 1)) {
            return BAD;
        }
        int bits = 0;
        int day = NOT;
        int latest = NOT;
        for (int tide = 0; tide < coast.tides; tide++) {
            search.prepare(10 * sort + tide, coast.allWinds());
            int last = search.latest(ft / 100, ft % 100);
            if (last != NOT) {
                bits |= 1 << tide;
            }
            if (last > latest) {
                latest = last;
                day = tide;
            }
        }
        return what == 0 ? bits : day;
    }

    public int two(int fm, int other, int st, int winds, int what) {
        if (!isFrom(fm) || !isFrom(other) || !isSortAndTide(st) || !isWinds(winds) || !within(what, 0, 1)) {
            return BAD;
        }
        search.prepare(st, winds);
        int meeting = search.meeting(fm, other);
        if (meeting == NOT) {
            return NOT;
        }
        return what == 0 ? meeting % 10000 : meeting / 10000;
    }

    public int worth(int way, int fm, int to, int st) {
        if (!isWay(way) || !isFrom(fm) || !isPlace(to) || !isSortAndTide(st)) {
            return BAD;
        }
        search.prepare(st, coast.allWinds());
        int with = soonOrDay(fm, to);
        int first = coast.firstHours[way];
        int last = coast.lastHours[way];
        coast.firstHours[way] = 0;
        coast.lastHours[way] = LAST_MINUTE;
        int without = soonOrDay(fm, to);
        coast.firstHours[way] = first;
        coast.lastHours[way] = last;
        return with - without;
    }

    public int higher(int way, int fm, int to, int st) {
        if (!isWay(way) || !isFrom(fm) || !isPlace(to) || !isSortAndTide(st)) {
            return BAD;
        }
        search.prepare(st, coast.allWinds());
        int now = soonOrDay(fm, to);
        if (soonLifted(way, fm, to, MOST_LIFT) >= now) {
            return NOT;
        }
        // A higher WAY shuts nothing, so what is sooner at one lift stays so at all greater ones: halving finds the least.
        int low = 1;
        int high = MOST_LIFT;
        while (low < high) {
            int middle = (low + high) / 2;
            if (soonLifted(way, fm, to, middle) < now) {
                high = middle;
            } else {
                low = middle + 1;
            }
        }
        return low;
    }

    public int must(int fm, int to, int st) {
        if (!isFrom(fm) || !isPlace(to) || !isSortAndTide(st)) {
            return BAD;
        }
        search.prepare(st, coast.allWinds());
        if (search.soonest(fm, to, coast.dark) == NOT) {
            return NOT;
        }
        int bits = 0;
        for (int place = 0; place < coast.places; place++) {
            search.barWaiting(place);
            if (search.soonest(fm, to, coast.dark) == NOT) {
                bits |= 1 << place;
            }
        }
        return bits;
    }

    // ---- plans

    public int move(int v) {
        if (!isMove(v)) {
            return BAD;
        }
        return plan.add(v) ? plan.count : FULL;
    }

    public int moves(int shelf, int i, int n) {
        if (!isShelf(shelf) || !within(n, 1, MOST_MOVES)) {
            return BAD;
        }
        Shelf row = shelves[shelf];
        if (row.holds == Shelf.NOTHING) {
            return 0;
        }
        if (row.holds != Shelf.SHORTS) {
            return OTHER_KIND;
        }
        int came = 0;
        while (came < n && row.has(i + came) && isMove((int) row.elements[i + came])
                && plan.add((int) row.elements[i + came])) {
            came++;
        }
        return came;
    }

    public int drop() {
        int had = plan.count;
        plan.count = 0;
        return had;
    }

    public int judge(int fm, int st, int wind, int what) {
        if (!isFrom(fm) || !isSortAndTide(st) || !within(wind, 0, coast.winds - 1) || !within(what, 0, 2)) {
            return BAD;
        }
        water.rise(st % 10, 1 << wind);
        int move = plan.walk(fm, st / 10);
        return what == 0 ? move : what == 1 ? plan.minute : plan.place;
    }

    public int wet(int fm, int st, int wind) {
        if (!isFrom(fm) || !isSortAndTide(st) || !within(wind, 0, coast.winds - 1)) {
            return BAD;
        }
        water.rise(st % 10, 1 << wind);
        return plan.walk(fm, st / 10) == NOT ? NOT : plan.shutIn(st / 10);
    }

    public int chance(int fm, int st) {
        if (!isFrom(fm) || !isSortAndTide(st)) {
            return BAD;
        }
        int set = 0;
        for (int wind = 0; wind < coast.winds; wind++) {
            water.rise(st % 10, 1 << wind);
            if (plan.walk(fm, st / 10) == NOT) {
                set |= 1 << wind;
            }
        }
        return coast.thousandths(set);
    }

    public int mark(int fm) {
        if (!isFrom(fm) || markCount > 0 && fm % 10000 <= marks[markCount - 1] % 10000) {
            return BAD;
        }
        if (markCount >= MOST_MARKS) {
            return FULL;
        }
        marks[markCount] = fm;
        markCount++;
        return markCount;
    }

    public int old(int st) {
        if (!isSortAndTide(st)) {
            return BAD;
        }
        if (markCount < 2) {
            return STATE;
        }
        int bits = 0;
        for (int wind = 0; wind < coast.winds; wind++) {
            search.prepare(st, 1 << wind);
            if (marksCanHaveBeen()) {
                bits |= 1 << wind;
            }
        }
        return bits;
    }

    public int unmark() {
        int had = markCount;
        markCount = 0;
        return had;
    }

    public int undo() {
        return changes.back() ? changes.done : STATE;
    }

    public int redo() {
        return changes.again() ? changes.known - changes.done : STATE;
    }

    // ---- acts, shelves

    public int body(int kind) {
        if (!within(kind, 0, KINDS - 1)) {
            return BAD;
        }
        return bodies.count >= MOST_BODIES ? FULL : bodies.add(kind);
    }

    public int act(int body, int act, int x) {
        return bodies.perform(body, act, x);
    }

    public int trace(int i) {
        return within(i, 0, Math.min(bodies.ran, TRACE_KEPT) - 1) ? bodies.began[i] : BAD;
    }

    public int keep(int shelf, int body) {
        if (!isShelf(shelf) || !within(body, -1, bodies.count - 1)) {
            return BAD;
        }
        shelves[shelf].holdBody(body);
        return 1;
    }

    public int row(int shelf, int sort, int n) {
        if (!isShelf(shelf) || !within(sort, Shelf.BYTES, Shelf.BOOLEANS) || n > MOST_ELEMENTS) {
            return BAD;
        }
        if (n < 0) {
            return SIZE_BELOW_ZERO;
        }
        shelves[shelf].holdRow(sort, n);
        return 1;
    }

    public int put(int shelf, int i, long v) {
        int refusal = refusalOfElement(shelf, i);
        if (refusal != 0) {
            return refusal;
        }
        shelves[shelf].elements[i] = shelves[shelf].kept(v);
        return 1;
    }

    public long element(int shelf, int i) {
        return refusalOfElement(shelf, i) != 0 ? Long.MIN_VALUE : shelves[shelf].elements[i];
    }

    public int shift(int shelf, int i, int other, int j, int n) {
        if (!isShelf(shelf) || !isShelf(other)) {
            return BAD;
        }
        Shelf from = shelves[shelf];
        Shelf to = shelves[other];
        if (from.holds == Shelf.NOTHING || to.holds == Shelf.NOTHING) {
            return NOTHING_THERE;
        }
        if (from.holds == Shelf.BODY || from.holds != to.holds) {
            return OTHER_KIND;
        }
        if (!from.hasRun(i, n) || !to.hasRun(j, n)) {
            return NO_PLACE_THERE;
        }
        System.arraycopy(from.elements, i, to.elements, j, n);
        return n;
    }

    public int taken(int shelf, int k) {
        if (!isShelf(shelf) || !within(k, 0, KINDS - 1)) {
            return BAD;
        }
        if (shelves[shelf].holds == Shelf.NOTHING) {
            return NOTHING_THERE;
        }
        if (shelves[shelf].holds != Shelf.BODY) {
            return OTHER_KIND;
        }
        int kind = bodies.kinds[shelves[shelf].body];
        return Bodies.isOrUnder(kind, k) ? kind : OTHER_KIND;
    }

    public int count(int what) {
        switch (what) {
            case 0: return coast.tides;
            case 1: return coast.winds;
            case 2: return coast.places;
            case 3: return coast.ways;
            case 4: return tape.length;
            case 5: return plan.count;
            case 6: return markCount;
            case 7: return changes.done;
            case 8: return bodies.count;
            case 9: return bodies.ran;
            default: return BAD;
        }
    }

    // ---- what arguments must be

    private static boolean within(int v, int least, int most) {
        return v >= least && v <= most;
    }

    private static boolean isMinute(int v) {
        return within(v, 0, LAST_MINUTE);
    }

    private static boolean isSort(int v) {
        return within(v, 0, SORTS - 1);
    }

    private static boolean isShelf(int v) {
        return within(v, 0, SHELVES - 1);
    }

    private boolean isPlace(int v) {
        return within(v, 0, coast.places - 1);
    }

    private boolean isWay(int v) {
        return within(v, 0, coast.ways - 1);
    }

    private boolean isPair(int ft) {
        return ft >= 0 && isPlace(ft / 100) && isPlace(ft % 100) && ft / 100 != ft % 100;
    }

    private boolean isFrom(int fm) {
        return fm >= 0 && isPlace(fm / 10000) && isMinute(fm % 10000);
    }

    private boolean isSortAndTide(int st) {
        return st >= 0 && isSort(st / 10) && st % 10 < coast.tides;
    }

    private boolean isWinds(int winds) {
        return within(winds, 1, coast.allWinds());
    }

    private boolean isMove(int v) {
        return isWay(v) || within(v, WAIT_FROM + 1, WAIT_FROM + LONGEST_WAIT);
    }

    /** 0: none. */
    private int refusalOfElement(int shelf, int i) {
        if (!isShelf(shelf)) {
            return BAD;
        }
        Shelf row = shelves[shelf];
        if (row.holds == Shelf.NOTHING) {
            return NOTHING_THERE;
        }
        if (row.holds == Shelf.BODY) {
            return OTHER_KIND;
        }
        return row.has(i) ? 0 : NO_PLACE_THERE;
    }

    // ---- what several searches answer

    private int soonOrDay(int fm, int to) {
        int soon = search.soonest(fm, to, LAST_MINUTE);
        return soon == NOT ? DAY : soon;
    }

    private int soonLifted(int way, int fm, int to, int lift) {
        int height = coast.heights[way];
        coast.heights[way] = height + lift;
        int soon = soonOrDay(fm, to);
        coast.heights[way] = height;
        return soon;
    }

    private boolean reachedByDark(int fm, int to, int st, int winds) {
        search.prepare(st, winds);
        return search.soonest(fm, to, coast.dark) != NOT;
    }

    private int bestSet(int fm, int to, int st) {
        // A set reaches no more than each of its WINDS does alone: sets with a WIND that fails alone need no search.
        int hopeful = 0;
        for (int wind = 0; wind < coast.winds; wind++) {
            if (reachedByDark(fm, to, st, 1 << wind)) {
                hopeful |= 1 << wind;
            }
        }
        int tried = 0;
        for (int i = 0; i < 1 << MOST_WINDS; i++) {
            int set = likeliestUntried(hopeful, tried);
            if (set == 0 || reachedByDark(fm, to, st, set)) {
                return set;
            }
            tried |= 1 << set;
        }
        return 0;
    }

    /** Of the sets of these winds not in tried (a bit a set) the one with the greatest sum of chances, 0: none. */
    private int likeliestUntried(int winds, int tried) {
        int likeliest = 0;
        for (int set = 1; set <= winds; set++) {
            boolean untried = (set & ~winds) == 0 && (tried >>> set & 1) == 0;
            if (untried && coast.chanceOf(set) > coast.chanceOf(likeliest)) {
                likeliest = set;
            }
        }
        return likeliest;
    }

    private boolean marksCanHaveBeen() {
        for (int i = 1; i < markCount; i++) {
            if (!search.isThere(marks[i - 1], marks[i])) {
                return false;
            }
        }
        return true;
    }

    /** The bytes told for a tide, and how they are read. */
    private static final class Tape {
        private static final int NO_FAULT = -1;

        private final int[] bytes = new int[MOST_BYTES];
        int length;
        final int[] minutes = new int[MOST_POINTS];
        final int[] heights = new int[MOST_POINTS];
        int points;
        private int at;

        boolean add(int n, int v) {
            if (length + n > MOST_BYTES) {
                return false;
            }
            for (int i = 0; i < n; i++) {
                bytes[length] = v >>> 8 * i & 255;
                length++;
            }
            return true;
        }

        /** Reads the whole text into points; its FAULT, or NO_FAULT. */
        int read() {
            at = 0;
            points = 0;
            int before = -1;
            while (points < MOST_POINTS) {
                int fault = readMinute(before);
                if (fault != NO_FAULT) {
                    return fault;
                }
                fault = readHeight();
                if (fault != NO_FAULT) {
                    return fault;
                }
                before = minutes[points];
                points++;
                if (at >= length) {
                    return NO_FAULT;
                }
                if (bytes[at] != ';' || points == MOST_POINTS) {
                    return at;
                }
                at++;
            }
            return at;
        }

        /** Reads a MINUTE and its colon. */
        private int readMinute(int before) {
            int first = at;
            int value = readNumber(MINUTE_DIGITS);
            if (at == first) {
                return at;
            }
            // The MINUTE is what its digits say: that more of them might have made it rise does not help it.
            if (value <= before || value > LAST_MINUTE) {
                return first;
            }
            if (at >= length || bytes[at] != ':') {
                return at;
            }
            at++;
            minutes[points] = value;
            return NO_FAULT;
        }

        private int readHeight() {
            int first = at;
            heights[points] = readNumber(HEIGHT_DIGITS);
            return at == first ? at : NO_FAULT;
        }

        /** Reads digits, so many at most; where there is none, it stays where it is. */
        private int readNumber(int most) {
            int value = 0;
            for (int digits = 0; digits < most && digitIsNext(); digits++) {
                value = value * 10 + bytes[at] - '0';
                at++;
            }
            return value;
        }

        private boolean digitIsNext() {
            return at < length && bytes[at] >= '0' && bytes[at] <= '9';
        }
    }

    /** All that has been told of the coast, and what follows from it at once. */
    private static final class Coast {
        int tides;
        private final int[] points = new int[MOST_TIDES];
        private final int[] pointMinutes = new int[MOST_TIDES * MOST_POINTS];
        private final int[] pointHeights = new int[MOST_TIDES * MOST_POINTS];
        int winds;
        final int[] lifts = new int[MOST_WINDS];
        final int[] earlies = new int[MOST_WINDS];
        private final int[] chances = new int[MOST_WINDS];
        int places;
        final int[] safes = new int[MOST_PLACES];
        int ways;
        final int[] ones = new int[MOST_WAYS];
        final int[] others = new int[MOST_WAYS];
        private final int[] lengths = new int[MOST_WAYS];
        final int[] heights = new int[MOST_WAYS];
        final int[] firstHours = new int[MOST_WAYS];
        final int[] lastHours = new int[MOST_WAYS];
        final int[] hundredths = new int[SORTS];
        int dawn;
        int dark = LAST_MINUTE;

        Coast() {
            chances[0] = 1;
            winds = 1;
            hundredths[0] = 100;
            hundredths[1] = 80;
            hundredths[2] = 150;
            hundredths[3] = 300;
        }

        int addTide(int[] minutes, int[] tideHeights, int n) {
            System.arraycopy(minutes, 0, pointMinutes, MOST_POINTS * tides, n);
            System.arraycopy(tideHeights, 0, pointHeights, MOST_POINTS * tides, n);
            points[tides] = n;
            tides++;
            return tides - 1;
        }

        int addWind(int lift, int early, int chance) {
            lifts[winds] = lift;
            earlies[winds] = early;
            chances[winds] = chance;
            winds++;
            return winds - 1;
        }

        int addWay(int one, int other, int length, int height) {
            ones[ways] = one;
            others[ways] = other;
            lengths[ways] = length;
            heights[ways] = height;
            firstHours[ways] = 0;
            lastHours[ways] = LAST_MINUTE;
            ways++;
            return ways - 1;
        }

        int allWinds() {
            return (1 << winds) - 1;
        }

        int chanceOf(int set) {
            int sum = 0;
            for (int wind = 0; wind < winds; wind++) {
                if ((set >>> wind & 1) != 0) {
                    sum += chances[wind];
                }
            }
            return sum;
        }

        int thousandths(int set) {
            return chanceOf(set) * 1000 / Math.max(1, chanceOf(allWinds()));
        }

        int taking(int way, int sort, int weary) {
            return (lengths[way] * (hundredths[sort] + 10 * weary) + 99) / 100;
        }

        int tideAt(int tide, int minute) {
            int first = MOST_POINTS * tide;
            int end = first + points[tide];
            int next = first;
            while (next < end && pointMinutes[next] < minute) {
                next++;
            }
            if (next == first) {
                return pointHeights[first];
            }
            if (next == end) {
                return pointHeights[end - 1];
            }
            int n = Math.max(1, pointMinutes[next] - pointMinutes[next - 1]);
            int k = minute - pointMinutes[next - 1];
            return (pointHeights[next - 1] * (n - k) + pointHeights[next] * k) / n;
        }

        int seaAt(int tide, int wind, int minute) {
            int early = Math.max(0, Math.min(LAST_MINUTE, minute + earlies[wind]));
            return tideAt(tide, early) + lifts[wind];
        }

        /** The row that a CHANGE is told in. */
        int[] rowOf(int what) {
            switch (what) {
                case HEIGHT: return heights;
                case FIRST_HOUR: return firstHours;
                case LAST_HOUR: return lastHours;
                case SAFE: return safes;
                default: return hundredths;
            }
        }
    }

    /** The greatest height of the sea in any of a set of winds, minute by minute: what goes below it goes in each. */
    private static final class Sea {
        private static final int BELOW_ALL = -1000;

        private final Coast coast;
        private final int[] tideRow = new int[DAY];
        final int[] row = new int[DAY];
        private int tideOfRow = -1;
        private int windsOfRow;

        Sea(Coast coast) {
            this.coast = coast;
        }

        void rise(int tide, int winds) {
            // A told tide or wind never changes, so a row once made stays right.
            if (tide == tideOfRow && winds == windsOfRow) {
                return;
            }
            if (tide != tideOfRow) {
                for (int m = 0; m < DAY; m++) {
                    tideRow[m] = coast.tideAt(tide, m);
                }
            }
            tideOfRow = tide;
            windsOfRow = winds;
            Arrays.fill(row, BELOW_ALL);
            for (int wind = 0; wind < coast.winds; wind++) {
                if ((winds >>> wind & 1) != 0) {
                    raise(coast.lifts[wind], coast.earlies[wind]);
                }
            }
        }

        private void raise(int lift, int early) {
            for (int m = 0; m < DAY; m++) {
                int at = Math.max(0, Math.min(LAST_MINUTE, m + early));
                row[m] = Math.max(row[m], tideRow[at] + lift);
            }
        }

        /** The first MINUTE from m on at which the sea is above the height; DAY: none. */
        int firstAbove(int height, int m) {
            int at = m;
            while (at < DAY && row[at] <= height) {
                at++;
            }
            return at;
        }
    }

    /**
     * What is REACHED. The STATES of one minute are one long: four bits a PLACE, one for each WEARY.
     */
    private static final class Search {
        private final Coast coast;
        private final Sea water;
        private final long[] states = new long[DAY];
        private final long[] otherStates = new long[DAY];
        private final int[] taking = new int[4 * MOST_WAYS];
        /** For each way the first minute above its height, as far as it has been looked for. */
        private final int[] above = new int[MOST_WAYS];
        private long mayWait;

        Search(Coast coast, Sea water) {
            this.coast = coast;
            this.water = water;
        }

        void prepare(int st, int winds) {
            water.rise(st % 10, winds);
            mayWait = -1L;
            for (int way = 0; way < coast.ways; way++) {
                for (int weary = 0; weary <= WEARIEST; weary++) {
                    taking[4 * way + weary] = coast.taking(way, st / 10, weary);
                }
            }
        }

        void barWaiting(int place) {
            mayWait = ~(15L << 4 * place);
        }

        /** The first MINUTE, end at most, at which the goal is REACHED from fm. */
        int soonest(int fm, int goal, int end) {
            return spread(states, fm, 15L << 4 * goal, end);
        }

        /** Whether from the one place and minute one can be at the other place at its minute. */
        boolean isThere(int fm, int then) {
            int minute = then % 10000;
            spread(states, fm, 0L, minute);
            return (states[minute] & 15L << 4 * (then / 10000)) != 0L;
        }

        /** 10000 times the PLACE and the MINUTE where parties from both meet first. */
        int meeting(int fm, int other) {
            spread(states, fm, 0L, LAST_MINUTE);
            spread(otherStates, other, 0L, LAST_MINUTE);
            for (int m = Math.max(fm % 10000, other % 10000); m < DAY; m++) {
                for (int place = 0; place < coast.places; place++) {
                    long here = 15L << 4 * place;
                    if ((states[m] & here) != 0L && (otherStates[m] & here) != 0L) {
                        return 10000 * place + m;
                    }
                }
            }
            return NOT;
        }

        /** Fills the row minute by minute till a STATE of the goals is REACHED: its MINUTE. */
        private int spread(long[] row, int fm, long goals, int end) {
            Arrays.fill(row, 0L);
            Arrays.fill(above, -1);
            row[fm % 10000] = 1L << 4 * (fm / 10000);
            for (int m = fm % 10000; m <= end; m++) {
                long here = row[m];
                if ((here & goals) != 0L) {
                    return m;
                }
                if (here != 0L && m < LAST_MINUTE) {
                    row[m + 1] |= here & waiting(m);
                    for (int way = 0; way < coast.ways; way++) {
                        leave(row, m, way);
                    }
                }
            }
            return NOT;
        }

        /** The STATES in which WAITING goes from this minute to the next. */
        private long waiting(int m) {
            int highest = Math.max(water.row[m], water.row[m + 1]);
            long places = 0L;
            for (int place = 0; place < coast.places; place++) {
                if (highest <= coast.safes[place]) {
                    places |= 15L << 4 * place;
                }
            }
            return places & mayWait;
        }

        private void leave(long[] row, int m, int way) {
            int one = 4 * coast.ones[way];
            int other = 4 * coast.others[way];
            int atOne = (int) (row[m] >>> one) & 15;
            int atOther = (int) (row[m] >>> other) & 15;
            if ((atOne | atOther) == 0 || m < coast.firstHours[way] || m > coast.lastHours[way]) {
                return;
            }
            if (above[way] < m) {
                above[way] = water.firstAbove(coast.heights[way], m);
            }
            for (int weary = 0; weary <= WEARIEST; weary++) {
                int then = m + taking[4 * way + weary];
                if (then >= above[way]) {
                    return;
                }
                int wearier = Math.min(weary + 1, WEARIEST);
                row[then] |= (long) (atOne >>> weary & 1) << other + wearier;
                row[then] |= (long) (atOther >>> weary & 1) << one + wearier;
            }
        }

        /** The last MINUTE, dawn or later, at which one can start and REACH the goal by dark: back from the end. */
        int latest(int from, int goal) {
            Arrays.fill(above, coast.dark + 1);
            for (int m = coast.dark; m >= coast.dawn; m--) {
                long good = 15L << 4 * goal;
                if (m < coast.dark) {
                    good |= states[m + 1] & waiting(m);
                }
                for (int way = 0; way < coast.ways; way++) {
                    good |= goodToLeave(m, way);
                }
                states[m] = good;
                if ((good & 1L << 4 * from) != 0L) {
                    return m;
                }
            }
            return NOT;
        }

        /** The STATES of this minute from which the way leads to a good one. */
        private long goodToLeave(int m, int way) {
            if (water.row[m] > coast.heights[way]) {
                above[way] = m;
            }
            if (m < coast.firstHours[way] || m > coast.lastHours[way]) {
                return 0L;
            }
            int one = 4 * coast.ones[way];
            int other = 4 * coast.others[way];
            long good = 0L;
            for (int weary = 0; weary <= WEARIEST; weary++) {
                int then = m + taking[4 * way + weary];
                if (then >= above[way]) {
                    return good;
                }
                long there = states[then] >>> Math.min(weary + 1, WEARIEST);
                good |= (there >>> other & 1L) << one + weary;
                good |= (there >>> one & 1L) << other + weary;
            }
            return good;
        }
    }

    /** THE PLAN, and where walking it has come to; the sea must have risen for its tide and wind before it is walked. */
    private static final class Plan {
        private final Coast coast;
        private final Sea water;
        private final int[] told = new int[MOST_MOVES];
        int count;
        int place;
        int minute;
        private int weary;

        Plan(Coast coast, Sea water) {
            this.coast = coast;
            this.water = water;
        }

        boolean add(int v) {
            if (count >= MOST_MOVES) {
                return false;
            }
            told[count] = v;
            count++;
            return true;
        }

        /** The first move that does not go, or NOT; place, minute and weary are then those at which it ended. */
        int walk(int fm, int sort) {
            place = fm / 10000;
            minute = fm % 10000;
            weary = 0;
            for (int i = 0; i < count; i++) {
                boolean went = told[i] > WAIT_FROM ? stay(told[i] - WAIT_FROM) : follow(told[i], sort);
                if (!went) {
                    return i;
                }
            }
            return NOT;
        }

        private boolean stay(int n) {
            if (water.firstAbove(coast.safes[place], minute) <= minute + n) {
                return false;
            }
            minute += n;
            return true;
        }

        private boolean follow(int way, int sort) {
            if (!leadsOn(way) || !wayGoes(way, minute, sort, weary)) {
                return false;
            }
            minute += coast.taking(way, sort, weary);
            place = coast.ones[way] == place ? coast.others[way] : coast.ones[way];
            weary = Math.min(weary + 1, WEARIEST);
            return true;
        }

        private boolean leadsOn(int way) {
            return coast.ones[way] == place || coast.others[way] == place;
        }

        boolean wayGoes(int way, int m, int sort, int tired) {
            return m >= coast.firstHours[way] && m <= coast.lastHours[way]
                    && water.firstAbove(coast.heights[way], m) > m + coast.taking(way, sort, tired);
        }

        /** WET, from where walking ended at a move that does not go. */
        int shutIn(int sort) {
            int end = Math.max(minute, water.firstAbove(coast.safes[place], minute) - 1);
            if (end >= LAST_MINUTE) {
                return NOT;
            }
            for (int way = 0; way < coast.ways; way++) {
                if (leadsOn(way) && wayGoes(way, end, sort, weary)) {
                    return NOT;
                }
            }
            return end;
        }
    }

    /** The changes told, in their order: those done, and behind them those undone. */
    private static final class Changes {
        private final Coast coast;
        private final int[] whats = new int[MOST_CHANGES];
        private final int[] numbers = new int[MOST_CHANGES];
        private final int[] befores = new int[MOST_CHANGES];
        private final int[] afters = new int[MOST_CHANGES];
        int done;
        int known;

        Changes(Coast coast) {
            this.coast = coast;
        }

        /** Sets the number and answers what it was. */
        int tell(int what, int number, int v) {
            int[] row = coast.rowOf(what);
            int was = row[number];
            if (was == v) {
                return was;
            }
            row[number] = v;
            if (done >= MOST_CHANGES) {
                forgetOldest();
            }
            whats[done] = what;
            numbers[done] = number;
            befores[done] = was;
            afters[done] = v;
            done++;
            known = done;
            return was;
        }

        private void forgetOldest() {
            done = MOST_CHANGES - 1;
            System.arraycopy(whats, 1, whats, 0, done);
            System.arraycopy(numbers, 1, numbers, 0, done);
            System.arraycopy(befores, 1, befores, 0, done);
            System.arraycopy(afters, 1, afters, 0, done);
        }

        boolean back() {
            if (done == 0) {
                return false;
            }
            done--;
            coast.rowOf(whats[done])[numbers[done]] = befores[done];
            return true;
        }

        boolean again() {
            if (done == known) {
                return false;
            }
            coast.rowOf(whats[done])[numbers[done]] = afters[done];
            done++;
            return true;
        }
    }

    /** The BODIES kept, and the acts of their KINDS. */
    private static final class Bodies {
        private static final int GOES = 0, WAITS = 1, WETS = 2, TELLS = 3;
        private static final int PLAN = 0, STRAIGHT = 1, WAIT = 2;
        private static final int DEEPEST = 20;
        private static final int[] ABOVE = {-1, PLAN, PLAN, WAIT, PLAN, STRAIGHT, PLAN};
        /** The numbers of the bodies of acts, four a KIND; 0: it has none. PLAN's own are those of its interfaces too. */
        private static final int[] OWN = {
            1, 10, 11, 2,
            20, 0, 0, 0,
            0, 30, 0, 0,
            0, 41, 40, 0,
            0, 0, 0, 50,
            60, 0, 61, 0,
            0, 70, 0, 0,
        };

        final int[] kinds = new int[MOST_BODIES];
        int count;
        final int[] began = new int[TRACE_KEPT];
        int ran;
        private int number;

        int add(int kind) {
            kinds[count] = kind;
            count++;
            return count - 1;
        }

        static boolean isOrUnder(int kind, int above) {
            int at = kind;
            for (int i = 0; i < KINDS && at >= 0; i++) {
                if (at == above) {
                    return true;
                }
                at = ABOVE[at];
            }
            return false;
        }

        int perform(int body, int act, int x) {
            ran = 0;
            if (!within(body, 0, count - 1) || !within(act, 0, ACTS - 1)) {
                return 0;
            }
            number = body;
            return own(act, x, 0);
        }

        /** The act as the body's own KIND does it. */
        private int own(int act, int x, int depth) {
            return from(kinds[number], act, x, depth);
        }

        /** The act as this KIND, or the next above that has it, does it. */
        private int from(int kind, int act, int x, int depth) {
            int at = kind;
            for (int i = 0; i < KINDS && at > PLAN && OWN[ACTS * at + act] == 0; i++) {
                at = ABOVE[at];
            }
            return at < PLAN || depth > DEEPEST ? 0 : run(OWN[ACTS * at + act], x, depth + 1);
        }

        private void note(int body) {
            if (ran < TRACE_KEPT) {
                began[ran] = body;
            }
            ran++;
        }

        private int run(int body, int x, int depth) {
            note(body);
            switch (body) {
                case 1: return x + number;
                case 2: return own(WAITS, x, depth) - own(WETS, 1, depth);
                case 10: return own(GOES, x, depth) * 2;
                case 11: return x ^ number;
                case 20: return from(PLAN, GOES, x, depth) + 3;
                case 30: return -from(PLAN, WAITS, x, depth);
                case 40: return from(WAIT, WETS, x, depth) * 3;
                case 41: return from(WAIT, WAITS, x + 1, depth);
                case 50: return from(PLAN, TELLS, x, depth) ^ 5;
                case 60: return from(STRAIGHT, GOES, x, depth) * 2;
                case 61: return from(STRAIGHT, WETS, x, depth) + own(GOES, 2, depth);
                case 70: return from(PLAN, WAITS, x, depth) - own(WETS, 2, depth);
                default: return 0;
            }
        }
    }

    /** One shelf: nothing, a BODY's number, or a ROW, whose elements are kept as longs of their sort's range. */
    private static final class Shelf {
        static final int NOTHING = -1, BYTES = 0, SHORTS = 1, INTS = 2, BOOLEANS = 4, BODY = 5;

        int holds = NOTHING;
        int body;
        final long[] elements = new long[MOST_ELEMENTS];
        private int length;

        /** -1: nothing. */
        void holdBody(int number) {
            holds = number < 0 ? NOTHING : BODY;
            body = Math.max(0, number);
        }

        void holdRow(int sort, int n) {
            holds = sort;
            length = n;
            Arrays.fill(elements, 0L);
        }

        boolean has(int i) {
            return i >= 0 && i < length;
        }

        boolean hasRun(int i, int n) {
            return i >= 0 && n >= 0 && n <= length && i <= length - n;
        }

        long kept(long v) {
            switch (holds) {
                case BYTES: return (byte) v;
                case SHORTS: return (short) v;
                case INTS: return (int) v;
                case BOOLEANS: return v != 0L ? 1L : 0L;
                default: return v;
            }
        }
    }
}
