/** A canal told in a text, who takes its water, and what of it comes to the end. */
public final class CanalEnd {
    public static final int UNKNOWN = -1, OUTSIDE = -2, STATE = -3, FULL = -4, NONE = -9;
    public static final long LOST = Long.MIN_VALUE;

    private static final int MOST_MILES = 10, MOST_OUTLETS = 8, MOST_READINGS = 10;
    private static final int SHEETS = 4, SORTS = 3, MOST_CELLS = 100;
    private static final int MOST_WATER = 9999, MOST_NEEDS = 999, MOST_PAY = 999;
    private static final int MOST_SYPHON = 99, FIRST_SYPHON = 5, MOST_FINE = 99, MOST_GUARDS = 3;
    private static final int MOST_DIGGERS = 8, MOST_EVENED = 4, MOST_DIGIT = 9;
    private static final int RIGHT = 0, LOW = 1, NIGHTLY = 2, KINDS = 3, LOWER_BY = 3;
    private static final int NULL = 1, CAST = 2, INDEX = 3, SIZE = 4;
    private static final int BYTES = 0, SHORTS = 1;
    private static final int MEND = 0, DIG = 1, LINE = 2, THINGS = 3;
    private static final int MILLION = 1000000;

    private final Canal canal = new Canal();
    /** What is only tried is tried here, so that nothing has to be put back. */
    private final Canal trial = new Canal();
    private final Text text = new Text();
    private final Hour hour = new Hour();
    private final Day day = new Day();
    private final Day dugDay = new Day();
    private final Worlds worlds = new Worlds();
    private final Heights heights = new Heights();
    private final Sheet[] sheets = new Sheet[SHEETS];
    private final int[] odds = new int[MOST_OUTLETS];
    private int latestFault = 0;
    private int traced = 0;

    public CanalEnd() {
        for (int k = 0; k < SHEETS; k++) {
            sheets[k] = new Sheet();
        }
    }

    // ---- 1 the canal

    public int canal(int sheet, int sort, int i, int n) {
        int refusal = refusalOfRow(sheet, sort, i, n);
        if (refusal != 0) {
            return refusal;
        }
        int place = text.firstFault(sheets[sheet].cells, i, n, trial);
        if (place >= 0) {
            return -100 - place;
        }
        trial.siphoned = canal.siphoned;
        canal.become(trial);
        worlds.forgetReadings();
        return canal.miles;
    }

    public int ofMile(int j, int what) {
        if (!isMile(j)) {
            return UNKNOWN;
        }
        switch (what) {
            case 0:
                return canal.seep[j];
            case 1:
                return canal.silt[j];
            case 2:
                return canal.count[j] == 0 ? NONE : canal.first[j];
            case 3:
                return canal.count[j];
            default:
                return OUTSIDE;
        }
    }

    public int turn(int j, int what, int v) {
        if (!isMile(j)) {
            return UNKNOWN;
        }
        if (!isIn(what, 0, 1) || !isIn(v, 0, MOST_DIGIT)) {
            return OUTSIDE;
        }
        int[] row = what == 0 ? canal.seep : canal.silt;
        int was = row[j];
        row[j] = v;
        worlds.counted = false;
        return was;
    }

    public int ofOutlet(int o, int what) {
        if (!isOutlet(o)) {
            return UNKNOWN;
        }
        switch (what) {
            case 0:
                return canal.kinds[o];
            case 1:
                return canal.mileOf[o];
            case 2:
                return canal.sizes[o];
            case 3:
                return canal.heights[o];
            case 4:
                return canal.wants[o];
            case 5:
                return canal.guarded[o];
            default:
                return OUTSIDE;
        }
    }

    public int kind(int o, int v) {
        if (!isOutlet(o)) {
            return UNKNOWN;
        }
        if (!isIn(v, RIGHT, NIGHTLY)) {
            return OUTSIDE;
        }
        int was = canal.kinds[o];
        canal.kinds[o] = v;
        return was;
    }

    public int needs(int o, int v) {
        if (!isOutlet(o)) {
            return UNKNOWN;
        }
        if (!isIn(v, 0, MOST_NEEDS)) {
            return OUTSIDE;
        }
        int was = canal.wants[o];
        canal.wants[o] = v;
        return was;
    }

    public int guard(int o, boolean is) {
        if (!isOutlet(o)) {
            return UNKNOWN;
        }
        int guarded = is ? 1 : 0;
        if (canal.guarded[o] == guarded) {
            return 0;
        }
        canal.guarded[o] = guarded;
        return 1;
    }

    public int syphon(int v) {
        if (!isIn(v, 0, MOST_SYPHON)) {
            return OUTSIDE;
        }
        int was = canal.siphoned;
        canal.siphoned = v;
        worlds.counted = false;
        return was;
    }

    // ---- 2 hours

    public int behind(int j, int f, boolean night) {
        int refusal = refusalOfHour(isMile(j), f, night);
        return refusal != 0 ? refusal : hour.left[j];
    }

    public int seeps(int j, int f, boolean night) {
        int refusal = refusalOfHour(isMile(j), f, night);
        return refusal != 0 ? refusal : hour.seeped[j];
    }

    public int level(int j, int f, boolean night) {
        int refusal = refusalOfHour(isMile(j), f, night);
        return refusal != 0 ? refusal : hour.levels[j];
    }

    public int takes(int o, int f, boolean night) {
        int refusal = refusalOfHour(isOutlet(o), f, night);
        return refusal != 0 ? refusal : hour.taken[o];
    }

    public int row(int sheet, int sort, int i, int n, int what) {
        int refusal = refusalOfRow(sheet, sort, i, n);
        if (refusal != 0) {
            return refusal;
        }
        boolean ofOutlets = what >= 10 && isOutlet(what - 10);
        if (!sheets[sheet].isAllWater(i, n) || !(isIn(what, 0, 3) || ofOutlets)) {
            return OUTSIDE;
        }
        if (!isCanal()) {
            return STATE;
        }
        int sum = 0;
        for (int at = i; at < i + n; at++) {
            int cell = sheets[sheet].cells[at];
            hour.run(canal, Math.abs(cell), cell < 0);
            sum += ofOutlets ? hour.taken[what - 10] : hour.sumOf(what);
        }
        return sum;
    }

    // ---- 3 gauges

    public int reading(int j, int f, boolean night, int v) {
        if (!isMile(j)) {
            return UNKNOWN;
        }
        if (!isWater(f) || !isWater(v)) {
            return OUTSIDE;
        }
        if (worlds.readings >= MOST_READINGS) {
            return FULL;
        }
        return worlds.addReading(j, f, night, v);
    }

    public int back(int k) {
        if (!isIn(k, 0, worlds.readings)) {
            return OUTSIDE;
        }
        worlds.takeBack(k);
        return worlds.readings;
    }

    public int fits() {
        if (!isCanal()) {
            return STATE;
        }
        worlds.countOnce(canal);
        return worlds.fitting;
    }

    public int sure(int o) {
        if (!isOutlet(o)) {
            return UNKNOWN;
        }
        worlds.countOnce(canal);
        for (int kind = 0; kind < KINDS; kind++) {
            if (worlds.fitting > 0 && worlds.tally[o][kind] == worlds.fitting) {
                return kind;
            }
        }
        return NONE;
    }

    public long guilt(int o, int which) {
        if (!isOutlet(o) || !isIn(which, 0, 1)) {
            return LOST;
        }
        worlds.countOnce(canal);
        int all = worlds.fitting;
        if (all == 0) {
            return LOST;
        }
        int guilty = all - worlds.tally[o][RIGHT];
        int common = commonDivisor(guilty, all);
        if (common < 1) {
            return LOST;
        }
        return which == 0 ? guilty / common : all / common;
    }

    public int tells(int f, boolean night, int what) {
        if (!isWater(f) || !isIn(what, 0, 1)) {
            return OUTSIDE;
        }
        if (!isCanal()) {
            return STATE;
        }
        worlds.countWithGauges(canal, f, night);
        if (worlds.fitting == 0) {
            return STATE;
        }
        int best = 0;
        for (int j = 1; j < canal.miles; j++) {
            if (worlds.worst[j] < worlds.worst[best]) {
                best = j;
            }
        }
        return what == 0 ? best : worlds.worst[best];
    }

    // ---- 4 people, things

    public int settle(int f) {
        if (!isWater(f)) {
            return OUTSIDE;
        }
        if (!isCanal()) {
            return STATE;
        }
        return settlePeople(canal, f);
    }

    public int brings(int sort, int k, int f) {
        if (!isIn(sort, MEND, LINE) || !(sort == MEND ? isOutlet(k) : isMile(k))) {
            return UNKNOWN;
        }
        if (!isWater(f)) {
            return OUTSIDE;
        }
        return endAfter(sort, k, f);
    }

    public int best(int f) {
        if (!isWater(f)) {
            return OUTSIDE;
        }
        if (!isCanal()) {
            return STATE;
        }
        int most = -1;
        int thing = NONE;
        for (int sort = 0; sort < THINGS; sort++) {
            int many = sort == MEND ? canal.outlets : canal.miles;
            for (int k = 0; k < many; k++) {
                int end = endAfter(sort, k, f);
                if (end > most) {
                    most = end;
                    thing = 100 * sort + k;
                }
            }
        }
        return thing;
    }

    // ---- 5 digging

    public long gains(int j, int o, int f) {
        if (!isMile(j) || !isOutlet(o) || !isWater(f)) {
            return LOST;
        }
        runDays(j, f);
        return dugDay.taken[o] - day.taken[o];
    }

    public int holds(int j, int set, int d, int c, int f) {
        if (!isMile(j)) {
            return UNKNOWN;
        }
        if (!isIn(set, 0, allOutlets()) || !isDigging(d, c, f)) {
            return OUTSIDE;
        }
        runDays(j, f);
        return isHeld(set, d, c) ? 1 : 0;
    }

    public int digs(int j, int d, int c, int f, int what) {
        if (!isMile(j)) {
            return UNKNOWN;
        }
        if (!isDigging(d, c, f) || !isIn(what, 0, 1)) {
            return OUTSIDE;
        }
        runDays(j, f);
        int held = 0;
        int most = NONE;
        for (int set = 0; set <= allOutlets(); set++) {
            if (isHeld(set, d, c)) {
                held++;
                if (most == NONE || Integer.bitCount(set) > Integer.bitCount(most)) {
                    most = set;
                }
            }
        }
        return what == 0 ? held : most;
    }

    // ---- 6 heights, guards

    public int even(int f, int k) {
        if (!isIn(k, -1, MOST_EVENED - 1)) {
            return UNKNOWN;
        }
        if (!isWater(f)) {
            return OUTSIDE;
        }
        if (!isIn(canal.outlets, 1, MOST_EVENED)) {
            return STATE;
        }
        if (k >= canal.outlets) {
            return NONE;
        }
        trial.become(canal);
        heights.search(trial, f);
        return k < 0 ? heights.leastSpread : heights.best[k];
    }

    public int tempts(int o, int f) {
        if (!isOutlet(o)) {
            return UNKNOWN;
        }
        return isWater(f) ? temptation(o, f) : OUTSIDE;
    }

    public int kept(int g, int fine, int f) {
        if (!isIn(g, 1, MOST_GUARDS) || !isIn(fine, 1, MOST_FINE) || !isWater(f)) {
            return OUTSIDE;
        }
        for (int o = 0; o < canal.outlets; o++) {
            odds[o] = oddsOf(temptation(o, f), fine);
        }
        int set = 0;
        int enough = g * MILLION;
        for (int round = 0; round < canal.outlets; round++) {
            int next = leastOdds(set);
            if (next == NONE || odds[next] > enough) {
                break;
            }
            enough -= odds[next];
            set |= 1 << next;
        }
        return set;
    }

    // ---- 7 sheets, parts

    public int sheet(int k, int sort, int n) {
        latestFault = 0;
        if (!isSheet(k)) {
            return UNKNOWN;
        }
        if (!isSort(sort) || n > MOST_CELLS) {
            return OUTSIDE;
        }
        if (n < 0) {
            return faulty(SIZE);
        }
        sheets[k].begin(sort, n);
        return 1;
    }

    public int lose(int k) {
        if (!isSheet(k)) {
            return UNKNOWN;
        }
        if (!sheets[k].isThere) {
            return 0;
        }
        sheets[k].isThere = false;
        return 1;
    }

    public int put(int k, int i, int v) {
        latestFault = 0;
        if (!isSheet(k)) {
            return UNKNOWN;
        }
        Sheet own = sheets[k];
        if (!own.isThere) {
            return faulty(NULL);
        }
        if (!own.isCell(i)) {
            return faulty(INDEX);
        }
        own.cells[i] = own.cut(v);
        return 1;
    }

    public long cell(int k, int i, int sort) {
        latestFault = 0;
        if (!isSheet(k) || !isSort(sort)) {
            return LOST;
        }
        Sheet own = sheets[k];
        int came = own.faultAs(sort);
        if (came == 0 && !own.isCell(i)) {
            came = INDEX;
        }
        latestFault = came;
        return came == 0 ? own.cells[i] : LOST;
    }

    public int copy(int k, int i, int other, int j, int n) {
        latestFault = 0;
        if (!isSheet(k) || !isSheet(other)) {
            return UNKNOWN;
        }
        Sheet from = sheets[k];
        Sheet to = sheets[other];
        if (!from.isThere || !to.isThere) {
            return faulty(NULL);
        }
        if (from.sort != to.sort) {
            return faulty(CAST);
        }
        if (!from.areCells(i, n) || !to.areCells(j, n)) {
            return faulty(INDEX);
        }
        System.arraycopy(from.cells, i, to.cells, j, n);
        return n;
    }

    public int tell(int o) {
        if (!isOutlet(o)) {
            return UNKNOWN;
        }
        switch (canal.kinds[o]) {
            case RIGHT:
                return rightTells(o);
            case LOW:
                return lowTells(o);
            default:
                return nightlyTells(o);
        }
    }

    public int see(int o) {
        if (!isOutlet(o)) {
            return UNKNOWN;
        }
        if (canal.kinds[o] == NIGHTLY) {
            leaveTrace(5);
            return 40;
        }
        leaveTrace(4);
        return o;
    }

    public int as(int o, int kind) {
        latestFault = 0;
        if (!isOutlet(o)) {
            return UNKNOWN;
        }
        if (!isIn(kind, RIGHT, NIGHTLY)) {
            return OUTSIDE;
        }
        return canal.kinds[o] < kind ? faulty(CAST) : 1;
    }

    public int trace() {
        return traced;
    }

    public int fault() {
        return latestFault;
    }

    public int many(int what) {
        switch (what) {
            case 0:
                return canal.miles;
            case 1:
                return canal.outlets;
            case 2:
                return worlds.readings;
            case 3:
                return canal.notRight();
            case 4:
                return canal.underGuard();
            default:
                return OUTSIDE;
        }
    }

    // ---- what a call may name

    private static boolean isIn(int v, int least, int most) {
        return v >= least && v <= most;
    }

    private static boolean isWater(int f) {
        return isIn(f, 0, MOST_WATER);
    }

    private static boolean isSheet(int k) {
        return isIn(k, 0, SHEETS - 1);
    }

    private static boolean isSort(int sort) {
        return isIn(sort, 0, SORTS - 1);
    }

    private static boolean isDigging(int d, int c, int f) {
        return isIn(d, 1, MOST_DIGGERS) && isIn(c, 0, MOST_PAY) && isWater(f);
    }

    private boolean isCanal() {
        return canal.miles > 0;
    }

    private boolean isMile(int j) {
        return isIn(j, 0, canal.miles - 1);
    }

    private boolean isOutlet(int o) {
        return isIn(o, 0, canal.outlets - 1);
    }

    private int allOutlets() {
        return (1 << canal.outlets) - 1;
    }

    /** Runs the HOUR, if nothing refuses it. */
    private int refusalOfHour(boolean isThere, int f, boolean night) {
        if (!isThere) {
            return UNKNOWN;
        }
        if (!isWater(f)) {
            return OUTSIDE;
        }
        hour.run(canal, f, night);
        return 0;
    }

    private int refusalOfRow(int sheet, int sort, int i, int n) {
        latestFault = 0;
        if (!isSheet(sheet)) {
            return UNKNOWN;
        }
        if (!isSort(sort)) {
            return OUTSIDE;
        }
        Sheet own = sheets[sheet];
        int came = own.faultAs(sort);
        if (came != 0) {
            return faulty(came);
        }
        if (n < 0) {
            return faulty(SIZE);
        }
        return own.areCells(i, n) ? 0 : faulty(INDEX);
    }

    private int faulty(int came) {
        latestFault = came;
        return -10 - came;
    }

    // ---- people, things, digging

    private int settlePeople(Canal c, int f) {
        int changes = 0;
        boolean changed = true;
        day.run(c, f);
        // a round without a change is the last one, and no OUTLET changes more than twice
        for (int round = 0; changed && round <= KINDS * MOST_OUTLETS; round++) {
            changed = false;
            for (int o = 0; o < c.outlets; o++) {
                if (day.taken[o] < c.wants[o] && c.guarded[o] == 0 && c.kinds[o] != NIGHTLY) {
                    c.kinds[o]++;
                    changes++;
                    changed = true;
                    day.run(c, f);
                }
            }
        }
        return changes;
    }

    private int endAfter(int sort, int k, int f) {
        trial.become(canal);
        if (sort == MEND) {
            trial.kinds[k] = RIGHT;
            trial.guarded[k] = 1;
        } else if (sort == DIG) {
            trial.silt[k] = 0;
        } else {
            trial.seep[k] = 0;
        }
        settlePeople(trial, f);
        return day.end;
    }

    private void runDays(int j, int f) {
        day.run(canal, f);
        trial.become(canal);
        trial.silt[j] = 0;
        dugDay.run(trial, f);
    }

    private boolean isHeld(int set, int d, int c) {
        int come = Integer.bitCount(set);
        for (int o = 0; o < canal.outlets; o++) {
            boolean comes = (set >> o & 1) == 1;
            int stays = comes ? come - 1 : come;
            int away = gotOf(o, stays >= d);
            int there = gotOf(o, stays + 1 >= d) - c;
            if (comes ? away > there : there > away) {
                return false;
            }
        }
        return true;
    }

    private int gotOf(int o, boolean isDug) {
        return isDug ? dugDay.taken[o] : day.taken[o];
    }

    // ---- guards, parts

    private int temptation(int o, int f) {
        if (canal.kinds[o] != RIGHT) {
            return 0;
        }
        hour.run(canal, f, true);
        int now = hour.taken[o];
        trial.become(canal);
        trial.kinds[o] = NIGHTLY;
        hour.run(trial, f, true);
        return Math.max(0, hour.taken[o] - now);
    }

    private static int oddsOf(int temptation, int fine) {
        long all = (long) temptation + fine;
        if (all < 1) {
            return 0;
        }
        return (int) (((long) temptation * MILLION + all - 1) / all);
    }

    private int leastOdds(int without) {
        int least = NONE;
        for (int o = 0; o < canal.outlets; o++) {
            boolean isOpen = (without >> o & 1) == 0;
            if (isOpen && (least == NONE || odds[o] < odds[least])) {
                least = o;
            }
        }
        return least;
    }

    private static int commonDivisor(int a, int b) {
        // halves at least every second step: 64 are plenty for any two ints
        for (int step = 0; step < 64 && b != 0; step++) {
            int rest = a % b;
            a = b;
            b = rest;
        }
        return a;
    }

    private void leaveTrace(int body) {
        traced = 31 * traced + body;
    }

    private int rightTells(int o) {
        leaveTrace(1);
        return canal.sizes[o];
    }

    private int lowTells(int o) {
        leaveTrace(2);
        return rightTells(o) + 100;
    }

    private int nightlyTells(int o) {
        leaveTrace(3);
        int low = lowTells(o);
        return low + rightTells(o);
    }

    /** A CANAL, its MILES and OUTLETS, as they are. */
    private static final class Canal {
        int width = 0;
        int miles = 0;
        int outlets = 0;
        int siphoned = FIRST_SYPHON;
        final int[] seep = new int[MOST_MILES];
        final int[] silt = new int[MOST_MILES];
        /** Of a MILE without OUTLETS: the one that would be its first. */
        final int[] first = new int[MOST_MILES];
        final int[] count = new int[MOST_MILES];
        final int[] mileOf = new int[MOST_OUTLETS];
        final int[] sizes = new int[MOST_OUTLETS];
        final int[] heights = new int[MOST_OUTLETS];
        final int[] kinds = new int[MOST_OUTLETS];
        final int[] wants = new int[MOST_OUTLETS];
        /** 1 and 0, so that it is a row of numbers as the others are: those alone are copied. */
        final int[] guarded = new int[MOST_OUTLETS];

        void begin(int newWidth) {
            width = newWidth;
            miles = 0;
            outlets = 0;
        }

        void addMile(int newSeep, int newSilt) {
            if (miles < MOST_MILES) {
                seep[miles] = newSeep;
                silt[miles] = newSilt;
                first[miles] = outlets;
                count[miles] = 0;
                miles++;
            }
        }

        void addOutlet(int size, int height) {
            if (outlets < MOST_OUTLETS && miles > 0) {
                mileOf[outlets] = miles - 1;
                count[miles - 1]++;
                sizes[outlets] = size;
                heights[outlets] = height;
                kinds[outlets] = RIGHT;
                wants[outlets] = 0;
                guarded[outlets] = 0;
                outlets++;
            }
        }

        void become(Canal other) {
            width = other.width;
            miles = other.miles;
            outlets = other.outlets;
            siphoned = other.siphoned;
            System.arraycopy(other.seep, 0, seep, 0, MOST_MILES);
            System.arraycopy(other.silt, 0, silt, 0, MOST_MILES);
            System.arraycopy(other.first, 0, first, 0, MOST_MILES);
            System.arraycopy(other.count, 0, count, 0, MOST_MILES);
            System.arraycopy(other.mileOf, 0, mileOf, 0, MOST_OUTLETS);
            System.arraycopy(other.sizes, 0, sizes, 0, MOST_OUTLETS);
            System.arraycopy(other.heights, 0, heights, 0, MOST_OUTLETS);
            System.arraycopy(other.kinds, 0, kinds, 0, MOST_OUTLETS);
            System.arraycopy(other.wants, 0, wants, 0, MOST_OUTLETS);
            System.arraycopy(other.guarded, 0, guarded, 0, MOST_OUTLETS);
        }

        int seepOf(int j, int comes) {
            return comes * seep[j] / 100;
        }

        int levelOf(int j, int water) {
            return width < 1 ? 0 : 10 * water / width + silt[j];
        }

        int takenFrom(int water, int o, int kind, int level, boolean night) {
            int height = kind == RIGHT ? heights[o] : Math.max(0, heights[o] - LOWER_BY);
            int wanted = level > height ? sizes[o] * (level - height) : 0;
            if (kind == NIGHTLY && night) {
                wanted += siphoned;
            }
            return Math.min(wanted, water);
        }

        int notRight() {
            int many = 0;
            for (int o = 0; o < outlets; o++) {
                many += kinds[o] == RIGHT ? 0 : 1;
            }
            return many;
        }

        int underGuard() {
            int many = 0;
            for (int o = 0; o < outlets; o++) {
                many += guarded[o];
            }
            return many;
        }
    }

    /** Reads a TEXT, code by code. */
    private static final class Text {
        private static final int NO_CODE = -1;
        private int[] row = null;
        private int start = 0;
        private int length = 0;
        private int at = 0;

        /** The place of the FIRST FAULT; NONE: there is none, and the canal is as the TEXT tells. */
        int firstFault(int[] cells, int i, int n, Canal into) {
            row = cells;
            start = i;
            length = n;
            at = 0;
            int place = skips('w') ? readsWidth(into) : at;
            for (int j = 0; place == NONE && j < MOST_MILES && (j == 0 || at < length); j++) {
                place = readsMile(into) ? NONE : at;
            }
            if (place == NONE && at < length) {
                place = at;
            }
            row = null;
            return place;
        }

        private int readsWidth(Canal into) {
            int begin = at;
            int width = 0;
            for (int digits = 0; digits < 2 && isDigit(0); digits++) {
                width = 10 * width + code() - '0';
                at++;
            }
            // of a WIDTH 0 its first digit; where there is no digit, that is the same place
            if (width == 0) {
                return begin;
            }
            into.begin(width);
            return NONE;
        }

        private boolean readsMile(Canal into) {
            if (!skips(';') || !skips('m') || !isDigit(0)) {
                return false;
            }
            int seep = digit();
            if (!isDigit(0)) {
                return false;
            }
            into.addMile(seep, digit());
            for (int o = into.outlets; o < MOST_OUTLETS && code() == 'o'; o++) {
                at++;
                if (!readsOutlet(into)) {
                    return false;
                }
            }
            return true;
        }

        private boolean readsOutlet(Canal into) {
            if (!isDigit(1)) {
                return false;
            }
            int size = digit();
            if (!isDigit(0)) {
                return false;
            }
            into.addOutlet(size, digit());
            return true;
        }

        private int code() {
            int place = start + at;
            boolean isThere = row != null && at < length && place >= 0 && place < row.length;
            return isThere ? row[place] : NO_CODE;
        }

        private boolean isDigit(int least) {
            return isIn(code(), '0' + least, '9');
        }

        private int digit() {
            int digit = code() - '0';
            at++;
            return digit;
        }

        private boolean skips(char sign) {
            if (code() != sign) {
                return false;
            }
            at++;
            return true;
        }
    }

    /** Where all water goes in an HOUR. */
    private static final class Hour {
        final int[] seeped = new int[MOST_MILES];
        final int[] levels = new int[MOST_MILES];
        final int[] left = new int[MOST_MILES];
        final int[] taken = new int[MOST_OUTLETS];
        private int came = 0;
        private int allSeeped = 0;
        private int end = 0;

        void run(Canal c, int f, boolean night) {
            int water = f;
            came = f;
            allSeeped = 0;
            for (int j = 0; j < c.miles; j++) {
                seeped[j] = c.seepOf(j, water);
                allSeeped += seeped[j];
                water -= seeped[j];
                levels[j] = c.levelOf(j, water);
                for (int o = c.first[j]; o < c.first[j] + c.count[j]; o++) {
                    taken[o] = c.takenFrom(water, o, c.kinds[o], levels[j], night);
                    water -= taken[o];
                }
                left[j] = water;
            }
            end = water;
        }

        int sumOf(int what) {
            switch (what) {
                case 0:
                    return came;
                case 1:
                    return allSeeped;
                case 2:
                    return came - allSeeped - end;
                default:
                    return end;
            }
        }
    }

    /** What OUTLETS and THE END get of a DAY. */
    private static final class Day {
        final int[] taken = new int[MOST_OUTLETS];
        int end = 0;
        private final Hour hour = new Hour();

        void run(Canal c, int f) {
            hour.run(c, f, false);
            end = hour.end;
            System.arraycopy(hour.taken, 0, taken, 0, MOST_OUTLETS);
            hour.run(c, f, true);
            end += hour.end;
            for (int o = 0; o < c.outlets; o++) {
                taken[o] += hour.taken[o];
            }
        }
    }

    /** READINGS, and the WORLDS that FIT them. All their HOURS go down the CANAL at once. */
    private static final class Worlds {
        private static final int HOURS = MOST_READINGS + 1;
        int readings = 0;
        int fitting = 0;
        /** Whether fitting and tally are of the CANAL and READINGS as they are. */
        boolean counted = false;
        final int[][] tally = new int[MOST_OUTLETS][KINDS];
        /** Of a MILE: how many would FIT at the worst, if its gauge were read. */
        final int[] worst = new int[MOST_MILES];
        // rows by HOUR: the READINGS' ones, then the one whose gauges might be read
        private int hours = 0;
        private final int[] weir = new int[HOURS];
        private final boolean[] nights = new boolean[HOURS];
        private final int[] lastMile = new int[HOURS];
        private final int[] read = new int[HOURS];
        // rows by OUTLET (and kind), of what each HOUR has there
        private final int[][] water = new int[MOST_OUTLETS + 1][HOURS];
        private final int[][] levels = new int[MOST_OUTLETS + 1][HOURS];
        private final int[][] left = new int[MOST_OUTLETS * KINDS][HOURS];
        private final int[] gauges = new int[MOST_MILES];
        /** By MILE and what is read: how many would FIT then. Large, so made when first needed. */
        private int[][] leaves = null;

        void forgetReadings() {
            readings = 0;
            counted = false;
        }

        int addReading(int j, int f, boolean night, int v) {
            if (readings >= MOST_READINGS) {
                return FULL;
            }
            weir[readings] = f;
            nights[readings] = night;
            lastMile[readings] = j;
            read[readings] = v;
            counted = false;
            readings++;
            return readings - 1;
        }

        void takeBack(int k) {
            if (k > 0 && k <= readings) {
                readings -= k;
                counted = false;
            }
        }

        void countOnce(Canal c) {
            if (!counted) {
                hours = readings;
                count(c);
            }
        }

        void countWithGauges(Canal c, int f, boolean night) {
            weir[readings] = f;
            nights[readings] = night;
            lastMile[readings] = c.miles - 1;
            hours = readings + 1;
            clearLeaves(c.miles, f);
            count(c);
        }

        private void clearLeaves(int miles, int f) {
            if (leaves == null) {
                leaves = new int[MOST_MILES][MOST_WATER + 1];
            }
            for (int j = 0; j < miles; j++) {
                worst[j] = 0;
                for (int v = 0; v <= f; v++) {
                    leaves[j][v] = 0;
                }
            }
        }

        private void count(Canal c) {
            for (int o = 0; o < MOST_OUTLETS; o++) {
                for (int kind = 0; kind < KINDS; kind++) {
                    tally[o][kind] = 0;
                }
            }
            fitting = fittingFrom(this, c, 0, weir, 1);
            counted = true;
        }

        /**
         * How many kinds of OUTLETS from o on FIT, if so much comes to it; weight is how many
         * kinds of those ahead bring the same.
         */
        private static int fittingFrom(Worlds w, Canal c, int o, int[] comes, int weight) {
            if (o > MOST_OUTLETS) {
                return 0;
            }
            int from = o == 0 ? -1 : c.mileOf[o - 1];
            int to = o < c.outlets ? c.mileOf[o] : c.miles;
            if (!w.flowsOn(c, o, comes, from, to)) {
                return 0;
            }
            int found = o < c.outlets ? fittingByKind(w, c, o, weight) : 1;
            if (w.hours > w.readings) {
                w.noteGauges(Math.max(from, 0), to, found * weight);
            }
            return found;
        }

        private static int fittingByKind(Worlds w, Canal c, int o, int weight) {
            w.takeByKind(c, o);
            int found = 0;
            int done = 0;
            for (int kind = 0; kind < KINDS; kind++) {
                if (kind < done) {
                    continue;
                }
                int alike = w.alikeFrom(o, kind);
                int each = fittingFrom(w, c, o + 1, w.left[KINDS * o + kind], weight * alike);
                done = kind + alike;
                for (int same = kind; same < done; same++) {
                    w.tally[o][same] += each * weight;
                }
                found += each * alike;
            }
            return found;
        }

        /** Down to the MILE of the next OUTLET (or behind the last MILE); false: a READING is not so. */
        private boolean flowsOn(Canal c, int o, int[] comes, int from, int to) {
            for (int h = 0; h < hours; h++) {
                int still = comes[h];
                if (from == to) {
                    levels[o][h] = o > 0 ? levels[o - 1][h] : 0;
                } else if (lastMile[h] >= from) {
                    still = flowOf(c, h, still, from, to);
                    if (still < 0) {
                        return false;
                    }
                    levels[o][h] = to < c.miles ? c.levelOf(to, still) : 0;
                }
                water[o][h] = still;
            }
            return true;
        }

        /** -1, if the HOUR's READING is not so. */
        private int flowOf(Canal c, int h, int comes, int from, int to) {
            int still = comes;
            for (int j = from; j < to; j++) {
                if (j >= 0 && h == readings) {
                    gauges[j] = still;
                } else if (j == lastMile[h]) {
                    return still == read[h] ? still : -1;
                }
                if (j + 1 < c.miles) {
                    still -= c.seepOf(j + 1, still);
                }
            }
            return still;
        }

        private void takeByKind(Canal c, int o) {
            for (int h = 0; h < hours; h++) {
                int still = water[o][h];
                // behind its READING nothing of an HOUR matters: kinds stay alike
                boolean matters = lastMile[h] >= c.mileOf[o];
                for (int kind = 0; kind < KINDS; kind++) {
                    int taken = matters ? c.takenFrom(still, o, kind, levels[o][h], nights[h]) : 0;
                    left[KINDS * o + kind][h] = still - taken;
                }
            }
        }

        /** How many kinds, this one and those next to it, leave the same in all HOURS. */
        private int alikeFrom(int o, int kind) {
            int[] row = left[KINDS * o + kind];
            int alike = 1;
            // no later kind takes less than one ahead of it, so the alike ones stand together
            for (int next = kind + 1; next < KINDS && isSame(row, left[KINDS * o + next]); next++) {
                alike++;
            }
            return alike;
        }

        private boolean isSame(int[] one, int[] other) {
            for (int h = 0; h < hours; h++) {
                if (one[h] != other[h]) {
                    return false;
                }
            }
            return true;
        }

        private void noteGauges(int from, int to, int more) {
            if (leaves == null) {
                return;
            }
            for (int j = from; j < to; j++) {
                int now = leaves[j][gauges[j]] + more;
                leaves[j][gauges[j]] = now;
                worst[j] = Math.max(worst[j], now);
            }
        }
    }

    /** HEIGHTS by which OUTLETS take most alike. */
    private static final class Heights {
        int leastSpread = 0;
        final int[] best = new int[MOST_EVENED];

        /** Leaves the HEIGHTS of the CANAL changed: it is one to try with. */
        void search(Canal tried, int f) {
            leastSpread = MOST_WATER + 1;
            tryFrom(this, tried, 0, f, 0, -1, -1);
        }

        /** most and least are of the OUTLETS ahead of o, -1 where there is none. */
        private static void tryFrom(Heights s, Canal c, int o, int comes, int level, int most, int least) {
            if (o >= c.outlets || o >= MOST_EVENED) {
                s.keep(c, most - least);
                return;
            }
            int from = o == 0 ? -1 : c.mileOf[o - 1];
            int to = c.mileOf[o];
            int water = comes;
            for (int j = from + 1; j <= to; j++) {
                water -= c.seepOf(j, water);
            }
            int stands = from == to ? level : c.levelOf(to, water);
            int before = -1;
            for (int height = 0; height <= MOST_DIGIT; height++) {
                c.heights[o] = height;
                int taken = c.takenFrom(water, o, RIGHT, stands, false);
                int above = Math.max(most, taken);
                int below = o == 0 ? taken : Math.min(least, taken);
                // the same taken again, or a spread that is no less, brings no better row
                if (taken != before && above - below < s.leastSpread) {
                    tryFrom(s, c, o + 1, water - taken, stands, above, below);
                }
                before = taken;
            }
        }

        private void keep(Canal c, int spread) {
            if (spread < leastSpread) {
                leastSpread = spread;
                System.arraycopy(c.heights, 0, best, 0, MOST_EVENED);
            }
        }
    }

    /** A SHEET: nothing, or a row of a SORT. The cells are made once and used again. */
    private static final class Sheet {
        boolean isThere = false;
        int sort = 0;
        final int[] cells = new int[MOST_CELLS];
        private int length = 0;

        void begin(int newSort, int n) {
            isThere = true;
            sort = newSort;
            length = n;
            for (int i = 0; i < MOST_CELLS; i++) {
                cells[i] = 0;
            }
        }

        int faultAs(int asked) {
            if (!isThere) {
                return NULL;
            }
            return sort == asked ? 0 : CAST;
        }

        boolean isCell(int i) {
            return isIn(i, 0, length - 1);
        }

        boolean areCells(int i, int n) {
            return isIn(i, 0, length) && isIn(n, 0, length - i);
        }

        boolean isAllWater(int i, int n) {
            for (int at = i; at < i + n; at++) {
                if (!isIn(cells[at], -MOST_WATER, MOST_WATER)) {
                    return false;
                }
            }
            return true;
        }

        int cut(int v) {
            if (sort == BYTES) {
                return (byte) v;
            }
            return sort == SHORTS ? (short) v : v;
        }
    }
}
