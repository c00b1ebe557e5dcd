import java.util.Arrays;

/** Rockets carry a rope to a ship that is breaking up, and her crew comes over it, man by man. */
public final class LineToWreck {
    public static final int NONE = -1, UNKNOWN = -101, OUTSIDE = -102, STATE = -103, FULL = -104;

    private static final int MOST_ROCKETS = 6;
    private static final int MOST_MEN = 6;
    private static final int MOST_SAID = 15;
    private static final int MOST_WRECKS = 8;
    private static final int MOST_STAGES = 10;
    private static final int MOST_LETTERS = 22;
    private static final int MOST_ORDERS = 30;
    private static final int SETS = 64;
    private static final int STAGE_MINUTES = 5;
    private static final int RIGHT_BEYOND_FAR = 5;
    private static final int COAST_END = 99;
    private static final int FIRST_HAWSER = 60;
    private static final int DIGEST_REACH = 10;

    private static final int MAN = 0;
    private static final int BOY = 1;
    private static final int MATE = 2;
    private static final int HURT = 3;
    private static final int CAPTAIN = 4;

    private final Page page;
    private final Sea waters;
    private final Rockets rockets;
    private final Crew crew;
    private final Course now;
    private final Image kept;
    private final AimSearch aimSearch;
    private final OrderSearch orderSearch;
    private final Successions successions;
    private final Trial trial;
    private int nightsRead;
    private int ordersDone;

    public LineToWreck() {
        page = new Page();
        waters = new Sea();
        rockets = new Rockets();
        crew = new Crew();
        now = new Course();
        kept = new Image();
        aimSearch = new AimSearch();
        orderSearch = new OrderSearch();
        successions = new Successions();
        trial = new Trial();
    }

    // ---- the night

    public int letter(int code) {
        if (isOutside(code, 1, 126)) {
            return OUTSIDE;
        }
        if (page.length >= MOST_LETTERS) {
            return FULL;
        }
        page.add(code);
        return page.length;
    }

    public int blank() {
        int had = page.length;
        page.clear();
        return had;
    }

    public int fault() {
        return page.faultPlace();
    }

    public int night() {
        if (!page.isNight()) {
            return STATE;
        }
        waters.read(page);
        page.clear();
        rockets.clear();
        crew.clear();
        now.clear();
        nightsRead++;
        return waters.stages;
    }

    public int sea(int what) {
        if (isOutside(what, 0, 4) && isOutside(what, 10, 19)) {
            return OUTSIDE;
        }
        if (!hasNight()) {
            return STATE;
        }
        return waters.tell(what);
    }

    // ---- rockets

    public int rocket(int range, int damp) {
        if (isOutside(range, 10, 120) || isOutside(damp, 0, 9)) {
            return OUTSIDE;
        }
        if (!hasNight()) {
            return STATE;
        }
        if (rockets.number >= MOST_ROCKETS) {
            return FULL;
        }
        return rockets.add(range, damp);
    }

    public int fire(int rocket, int gust) {
        if (!rockets.has(rocket)) {
            return UNKNOWN;
        }
        if (isOutside(gust, -1, 1)) {
            return OUTSIDE;
        }
        if (isIn(now.fired, rocket) || now.broken) {
            return STATE;
        }
        int place = rockets.fallsAt(rocket, now.stage(), gust, waters);
        now.fired = with(now.fired, rocket);
        if (waters.isRight(place)) {
            now.line = true;
        }
        return place;
    }

    public long hits(int rocket, int stage, int part) {
        if (!rockets.has(rocket)) {
            return UNKNOWN;
        }
        if (isOutside(stage, 0, MOST_STAGES - 1) || isOutside(part, 0, 1)) {
            return OUTSIDE;
        }
        return inLowestTerms(rockets.hitTenths(rocket, stage, waters), 10, part);
    }

    public long aim(int stages, int part) {
        if (isOutside(stages, 1, 4) || isOutside(part, 0, 1)) {
            return OUTSIDE;
        }
        if (!canAim()) {
            return STATE;
        }
        aimSearch.search(waters, rockets, now, stages);
        return inLowestTerms(aimSearch.best, aimSearch.whole, part);
    }

    public int which(int stages) {
        if (isOutside(stages, 1, 4)) {
            return OUTSIDE;
        }
        if (!canAim()) {
            return STATE;
        }
        aimSearch.search(waters, rockets, now, stages);
        return aimSearch.choice;
    }

    // ---- men

    public int man(int kind, int weight) {
        if (isOutside(kind, MAN, CAPTAIN) || isOutside(weight, 1, 30)) {
            return OUTSIDE;
        }
        if (!hasNight()) {
            return STATE;
        }
        if (crew.number >= MOST_MEN) {
            return FULL;
        }
        return crew.add(kind, weight);
    }

    public int about(int man, int what) {
        if (!crew.has(man)) {
            return UNKNOWN;
        }
        switch (what) {
            case 0: return crew.kind(man);
            case 1: return crew.weight(man);
            case 2: return crew.takes(man, waters.far, now.hawser);
            case 3: return asNumber(crew.sags(man, waters.far, now.hawser));
            case 4: return asNumber(isIn(now.over, man));
            case 5: return now.overMinute(man);
            case 6: return asNumber(mayCome(man));
            default: return OUTSIDE;
        }
    }

    public int as(int man, int kind) {
        if (!crew.has(man)) {
            return UNKNOWN;
        }
        if (isOutside(kind, MAN, CAPTAIN)) {
            return OUTSIDE;
        }
        return crew.isOf(man, kind) ? man : NONE;
    }

    public int behind(int a, int b, boolean is) {
        if (!areTwoMen(a, b)) {
            return UNKNOWN;
        }
        return asNumber(crew.putBehind(a, b, is));
    }

    public int hawser(int v) {
        if (isOutside(v, 0, 60)) {
            return OUTSIDE;
        }
        if (!hasNight()) {
            return STATE;
        }
        int was = now.hawser;
        now.hawser = v;
        return was;
    }

    public int come(int man) {
        if (!crew.has(man)) {
            return UNKNOWN;
        }
        if (!mayCome(man)) {
            return STATE;
        }
        now.bringOver(man, crew.takes(man, waters.far, now.hawser));
        return now.minute;
    }

    public int minutes(int minutes) {
        if (isOutside(minutes, 1, 50)) {
            return OUTSIDE;
        }
        if (!isAfloat() || now.minute + minutes >= waters.endMinute()) {
            return STATE;
        }
        now.minute += minutes;
        return now.minute;
    }

    public int breaks() {
        if (!isAfloat()) {
            return STATE;
        }
        now.broken = true;
        return crew.number - Integer.bitCount(now.over);
    }

    public long order(int what) {
        if (isOutside(what, 0, 1) && isOutside(what, 10, 15)) {
            return OUTSIDE;
        }
        if (!isAfloat() || ordersDone >= MOST_ORDERS) {
            return STATE;
        }
        ordersDone++;
        orderSearch.search(waters, crew, now);
        if (what >= 10) {
            return orderSearch.manAt(what - 10);
        }
        if (!orderSearch.isThere()) {
            return what == 0 ? NONE : 1;
        }
        return inLowestTerms(orderSearch.most(), OrderSearch.WHOLE, what);
    }

    // ---- what was said

    public int said(int a, int b) {
        if (!areTwoMen(a, b)) {
            return UNKNOWN;
        }
        if (now.saidCount >= MOST_SAID) {
            return FULL;
        }
        now.say(a, b);
        return now.saidCount;
    }

    public int orders() {
        successions.search(crew, now);
        return successions.total();
    }

    public int sure(int man) {
        if (!crew.has(man)) {
            return UNKNOWN;
        }
        successions.search(crew, now);
        return successions.surePlace(man);
    }

    // ---- a coast

    public int wreck(int place) {
        if (isOutside(place, 0, COAST_END)) {
            return OUTSIDE;
        }
        if (!hasNight()) {
            return STATE;
        }
        if (now.wreckCount >= MOST_WRECKS) {
            return FULL;
        }
        now.addWreck(place);
        return now.wreckCount;
    }

    public int stations(int reach, int what) {
        if (isOutside(reach, 0, 50) || isOutside(what, 0, 1)) {
            return OUTSIDE;
        }
        return what == 0 ? now.fewestStations(reach) : now.firstStation(reach);
    }

    public int nights(int seed, int what) {
        if (seed < 0 || isOutside(what, 0, 3)) {
            return OUTSIDE;
        }
        if (!isAfloat()) {
            return STATE;
        }
        trial.run(waters, rockets, now, seed);
        switch (what) {
            case 0: return asNumber(trial.line);
            case 1: return trial.shots;
            case 2: return asNumber(trial.broken);
            default: return (int) trial.seed;
        }
    }

    // ---- what is told of all

    public int image() {
        if (!hasNight()) {
            return STATE;
        }
        kept.course.takeFrom(now);
        kept.night = nightsRead;
        kept.rockets = rockets.number;
        kept.men = crew.number;
        return now.minute;
    }

    public int restore() {
        if (!hasNight() || kept.night != nightsRead
                || kept.rockets != rockets.number || kept.men != crew.number) {
            return STATE;
        }
        now.takeFrom(kept.course);
        return now.minute;
    }

    public int count(int what) {
        switch (what) {
            case 0: return rockets.number;
            case 1: return Integer.bitCount(now.fired);
            case 2: return crew.number;
            case 3: return Integer.bitCount(now.over);
            case 4: return now.minute;
            case 5: return asNumber(now.line);
            case 6: return asNumber(now.broken);
            case 7: return waters.stages;
            case 8: return now.hawser;
            case 9: return now.saidCount;
            case 10: return now.wreckCount;
            case 11: return page.length;
            case 12: return nightsRead;
            case 13: return ordersDone;
            default: return OUTSIDE;
        }
    }

    public long digest() {
        long h = 701;
        if (hasNight()) {
            h = mixSea(h);
        }
        for (int rocket = 0; rocket < rockets.number; rocket++) {
            h = mix(h, hits(rocket, 0, 0));
            h = mix(h, hits(rocket, 0, 1));
        }
        for (int man = 0; man < crew.number; man++) {
            for (int what = 0; what <= 6; what++) {
                h = mix(h, about(man, what));
            }
        }
        h = mix(h, orders());
        if (now.wreckCount > 0) {
            h = mix(h, stations(DIGEST_REACH, 0));
            h = mix(h, stations(DIGEST_REACH, 1));
        }
        for (int place = 0; place < page.length; place++) {
            h = mix(h, page.letterAt(place));
        }
        for (int what = 0; what <= 13; what++) {
            h = mix(h, count(what));
        }
        return h;
    }

    private long mixSea(long h) {
        long mixed = h;
        for (int what = 0; what <= 4; what++) {
            mixed = mix(mixed, sea(what));
        }
        for (int what = 10; what <= 19; what++) {
            mixed = mix(mixed, sea(what));
        }
        return mixed;
    }

    private boolean hasNight() {
        return nightsRead > 0;
    }

    private boolean isAfloat() {
        return hasNight() && !now.broken;
    }

    private boolean canAim() {
        return isAfloat() && !now.line;
    }

    private boolean areTwoMen(int a, int b) {
        return a != b && crew.has(a) && crew.has(b);
    }

    private boolean mayCome(int man) {
        return now.line && !now.broken && !isIn(now.over, man)
                && holdsAll(now.over, crew.ahead(man))
                && now.minute + crew.takes(man, waters.far, now.hawser) < waters.endMinute();
    }

    private static boolean isOutside(int value, int least, int most) {
        return value < least || value > most;
    }

    private static int asNumber(boolean is) {
        return is ? 1 : 0;
    }

    private static long mix(long h, long value) {
        return 31 * h + value;
    }

    // A set of rockets or men is a number, with a bit for each.

    private static boolean isIn(int set, int member) {
        return (set >> member & 1) != 0;
    }

    private static int with(int set, int member) {
        return set | 1 << member;
    }

    private static int without(int set, int member) {
        return set & ~(1 << member);
    }

    private static boolean holdsAll(int set, int wanted) {
        return (wanted & ~set) == 0;
    }

    // Every row is read and written by these four alone, so no place outside of one is ever used.

    private static int at(int[] row, int place) {
        return place >= 0 && place < row.length ? row[place] : 0;
    }

    private static long at(long[] row, int place) {
        return place >= 0 && place < row.length ? row[place] : 0;
    }

    private static void put(int[] row, int place, int value) {
        if (place >= 0 && place < row.length) {
            row[place] = value;
        }
    }

    private static void put(long[] row, int place, long value) {
        if (place >= 0 && place < row.length) {
            row[place] = value;
        }
    }

    private static long inLowestTerms(long above, long below, int part) {
        long common = commonDivisor(above, below);
        if (common <= 0) {
            return 0;
        }
        return (part == 0 ? above : below) / common;
    }

    private static long commonDivisor(long a, long b) {
        long divisor = a;
        long rest = b;
        // Two longs are through in fewer than 100 steps.
        for (int step = 0; step < 100 && rest != 0; step++) {
            long next = divisor % rest;
            divisor = rest;
            rest = next;
        }
        return divisor;
    }

    /** The letters that are told one by one, and what of them a NIGHT could have. */
    private static final class Page {
        static final int WIND_PLACE = 3;
        static final int GUSTS_PLACE = 5;
        static final int STAGES_PLACE = 9;

        private final int[] letters = new int[MOST_LETTERS];
        int length;

        void add(int code) {
            put(letters, length, code);
            length++;
        }

        void clear() {
            length = 0;
        }

        int letterAt(int place) {
            return at(letters, place);
        }

        int digitAt(int place) {
            return at(letters, place) - '0';
        }

        boolean isNight() {
            return length > STAGES_PLACE && faultPlace() == length;
        }

        int faultPlace() {
            for (int place = 0; place < length; place++) {
                if (!fits(place)) {
                    return place;
                }
            }
            return length;
        }

        private boolean fits(int place) {
            if (place == WIND_PLACE - 1 || place == GUSTS_PLACE - 1 || place == STAGES_PLACE - 1) {
                return letterAt(place) == ':';
            }
            if (isOutside(digitAt(place), 0, 9)) {
                return false;
            }
            switch (place) {
                case 0: return digitAt(0) != 0;
                case GUSTS_PLACE + 1: return gustsTo(place) <= 10;
                case GUSTS_PLACE + 2: return gustsTo(place) == 10;
                default: return place < STAGES_PLACE + MOST_STAGES;
            }
        }

        private int gustsTo(int last) {
            int sum = 0;
            for (int place = GUSTS_PLACE; place <= last; place++) {
                sum += digitAt(place);
            }
            return sum;
        }
    }

    /** What the text of THE NIGHT tells. */
    private static final class Sea {
        int far;
        int stages;
        private int wind;
        private final int[] gusts = new int[3];
        private final int[] tenths = new int[MOST_STAGES];

        void read(Page page) {
            far = 10 * page.digitAt(0) + page.digitAt(1);
            wind = page.digitAt(Page.WIND_PLACE);
            for (int i = 0; i < gusts.length; i++) {
                put(gusts, i, page.digitAt(Page.GUSTS_PLACE + i));
            }
            stages = page.length - Page.STAGES_PLACE;
            for (int stage = 0; stage < stages; stage++) {
                put(tenths, stage, page.digitAt(Page.STAGES_PLACE + stage));
            }
        }

        int tell(int what) {
            if (what == 0) {
                return far;
            }
            if (what == 1) {
                return wind;
            }
            if (what < 10) {
                return at(gusts, what - 2);
            }
            return what - 10 < stages ? at(tenths, what - 10) : NONE;
        }

        int endMinute() {
            return stages * STAGE_MINUTES;
        }

        /** By a GUST of -1, 0, 1. */
        int gustTenths(int gust) {
            return at(gusts, gust + 1);
        }

        int breakTenths(int stage) {
            return at(tenths, stage);
        }

        boolean isLast(int stage) {
            return stage >= stages - 1;
        }

        int drift(int gust) {
            return gust * wind;
        }

        boolean isRight(int place) {
            return place >= far && place <= far + RIGHT_BEYOND_FAR;
        }
    }

    private static final class Rockets {
        int number;
        private final int[] ranges = new int[MOST_ROCKETS];
        private final int[] damps = new int[MOST_ROCKETS];

        void clear() {
            number = 0;
        }

        boolean has(int rocket) {
            return rocket >= 0 && rocket < number;
        }

        int add(int range, int damp) {
            put(ranges, number, range);
            put(damps, number, damp);
            number++;
            return number - 1;
        }

        int fallsAt(int rocket, int stage, int gust, Sea waters) {
            return at(ranges, rocket) - at(damps, rocket) * stage + waters.drift(gust);
        }

        int hitTenths(int rocket, int stage, Sea waters) {
            int tenths = 0;
            for (int gust = -1; gust <= 1; gust++) {
                if (waters.isRight(fallsAt(rocket, stage, gust, waters))) {
                    tenths += waters.gustTenths(gust);
                }
            }
            return tenths;
        }

        /** The rockets that are not in the set of those fired. */
        int left(int fired) {
            return (1 << number) - 1 & ~fired;
        }

        int leastOf(int set) {
            for (int rocket = 0; rocket < number; rocket++) {
                if (isIn(set, rocket)) {
                    return rocket;
                }
            }
            return NONE;
        }
    }

    /** The men, and who of them comes BEHIND whom; that stays when an IMAGE is gone back to. */
    private static final class Crew {
        int number;
        private final int[] kinds = new int[MOST_MEN];
        private final int[] weights = new int[MOST_MEN];
        private final int[] aheads = new int[MOST_MEN];

        void clear() {
            number = 0;
            Arrays.fill(aheads, 0);
        }

        boolean has(int man) {
            return man >= 0 && man < number;
        }

        int add(int kind, int weight) {
            put(kinds, number, kind);
            put(weights, number, weight);
            number++;
            return number - 1;
        }

        int all() {
            return (1 << number) - 1;
        }

        int kind(int man) {
            return at(kinds, man);
        }

        int weight(int man) {
            return at(weights, man);
        }

        boolean isOf(int man, int kind) {
            int own = kind(man);
            return kind == MAN || kind == own || kind == MATE && own == CAPTAIN;
        }

        boolean putBehind(int man, int other, boolean is) {
            int was = at(aheads, man);
            put(aheads, man, is ? with(was, other) : without(was, other));
            return isIn(was, other);
        }

        /** All who must be over before this man comes. */
        int ahead(int man) {
            int told = at(aheads, man);
            return kind(man) == CAPTAIN ? told | allButCaptains() : told;
        }

        private int allButCaptains() {
            int set = 0;
            for (int man = 0; man < number; man++) {
                if (kind(man) != CAPTAIN) {
                    set = with(set, man);
                }
            }
            return set;
        }

        boolean sags(int man, int far, int hawser) {
            return weight(man) * far / 50 > hawser;
        }

        int takes(int man, int far, int hawser) {
            int minutes = 2 + weight(man) / 5;
            if (kind(man) == BOY) {
                minutes = (minutes + 1) / 2;
            }
            if (kind(man) == HURT) {
                minutes += 3;
            }
            return sags(man, far, hawser) ? minutes + 2 : minutes;
        }
    }

    /** How far the night has come: all that an IMAGE keeps, and nothing else. */
    private static final class Course {
        int minute;
        boolean line;
        boolean broken;
        int fired;
        int over;
        int hawser = FIRST_HAWSER;
        int saidCount;
        int wreckCount;
        private final int[] overMinutes = new int[MOST_MEN];
        private final int[] saidAheads = new int[MOST_MEN];
        private final int[] wrecks = new int[MOST_WRECKS];

        void clear() {
            minute = 0;
            line = false;
            broken = false;
            fired = 0;
            over = 0;
            hawser = FIRST_HAWSER;
            saidCount = 0;
            wreckCount = 0;
            Arrays.fill(saidAheads, 0);
        }

        void takeFrom(Course other) {
            minute = other.minute;
            line = other.line;
            broken = other.broken;
            fired = other.fired;
            over = other.over;
            hawser = other.hawser;
            saidCount = other.saidCount;
            wreckCount = other.wreckCount;
            for (int man = 0; man < MOST_MEN; man++) {
                put(overMinutes, man, at(other.overMinutes, man));
                put(saidAheads, man, at(other.saidAheads, man));
            }
            for (int i = 0; i < MOST_WRECKS; i++) {
                put(wrecks, i, at(other.wrecks, i));
            }
        }

        int stage() {
            return minute / STAGE_MINUTES;
        }

        void bringOver(int man, int takes) {
            minute += takes;
            over = with(over, man);
            put(overMinutes, man, minute);
        }

        int overMinute(int man) {
            return isIn(over, man) ? at(overMinutes, man) : NONE;
        }

        void say(int first, int later) {
            put(saidAheads, later, with(at(saidAheads, later), first));
            saidCount++;
        }

        int saidAhead(int man) {
            return at(saidAheads, man);
        }

        void addWreck(int place) {
            put(wrecks, wreckCount, place);
            wreckCount++;
        }

        int firstStation(int reach) {
            return wreckCount == 0 ? NONE : stationFor(leastWreckFrom(0), reach);
        }

        int fewestStations(int reach) {
            int stations = 0;
            int from = 0;
            for (int i = 0; i < wreckCount; i++) {
                int wreck = leastWreckFrom(from);
                if (wreck > COAST_END) {
                    return stations;
                }
                from = stationFor(wreck, reach) + reach + 1;
                stations++;
            }
            return stations;
        }

        private int stationFor(int wreck, int reach) {
            return Math.min(wreck + reach, COAST_END);
        }

        /** Beyond the coast, if there is none from there on. */
        private int leastWreckFrom(int from) {
            int least = COAST_END + 1;
            for (int i = 0; i < wreckCount; i++) {
                int wreck = at(wrecks, i);
                if (wreck >= from && wreck < least) {
                    least = wreck;
                }
            }
            return least;
        }
    }

    /** The one IMAGE, and by what it is known that it still fits. */
    private static final class Image {
        final Course course = new Course();
        int night;
        int rockets;
        int men;
    }

    /** AIM, from the last STAGE that counts back to this one, for every set of rockets left. */
    private static final class AimSearch {
        long best;
        long whole;
        int choice;
        private final long[] chances = new long[SETS];

        void search(Sea waters, Rockets rockets, Course now, int stages) {
            int first = now.stage();
            int end = Math.min(first + stages, waters.stages);
            Arrays.fill(chances, 0);
            whole = 1;
            for (int stage = end - 1; stage > first; stage--) {
                // From the fullest set down: a set asks only itself and smaller ones, of the STAGE behind.
                for (int left = (1 << rockets.number) - 1; left >= 0; left--) {
                    findBest(waters, rockets, left, stage);
                    put(chances, left, best);
                }
                whole *= 100;
            }
            findBest(waters, rockets, rockets.left(now.fired), first);
            whole *= 100;
        }

        private void findBest(Sea waters, Rockets rockets, int left, int stage) {
            int holds = 10 - waters.breakTenths(stage);
            best = chance(0, holds, at(chances, left));
            choice = NONE;
            for (int rocket = 0; rocket < rockets.number; rocket++) {
                if (isIn(left, rocket)) {
                    int tenths = rockets.hitTenths(rocket, stage, waters);
                    long found = chance(tenths, holds, at(chances, without(left, rocket)));
                    if (found > best) {
                        best = found;
                        choice = rocket;
                    }
                }
            }
        }

        /** Of 100 times the whole that the later chance is told of. */
        private long chance(int tenths, int holds, long later) {
            return 10 * tenths * whole + (10 - tenths) * holds * later;
        }
    }

    /** ORDER: the MINUTE when a set of men is over is the same by every order of them, so sets are enough. */
    private static final class OrderSearch {
        // Nine STAGES at most end by a chance of tenths; the last one ends by none.
        static final long WHOLE = 1000000000L;

        private long most;
        private int start;
        private final long[] worths = new long[SETS];
        private final int[] nexts = new int[SETS];

        void search(Sea waters, Crew crew, Course now) {
            start = now.over;
            // The last set is that of those over now: it leaves its own most behind.
            for (int set = crew.all(); set >= 0; set--) {
                if (holdsAll(set, start)) {
                    findNext(crew, set);
                    long holding = holding(waters, now, minuteWith(waters, crew, now, set));
                    put(worths, set, isThere() ? holding + most : NONE);
                }
            }
        }

        boolean isThere() {
            return most != NONE;
        }

        long most() {
            return most;
        }

        int manAt(int place) {
            int set = start;
            int man = NONE;
            for (int i = 0; i <= place; i++) {
                man = at(nexts, set);
                if (man == NONE) {
                    return NONE;
                }
                set = with(set, man);
            }
            return man;
        }

        private void findNext(Crew crew, int set) {
            most = set == crew.all() ? 0 : NONE;
            put(nexts, set, NONE);
            for (int man = 0; man < crew.number; man++) {
                if (!isIn(set, man) && holdsAll(set, crew.ahead(man))) {
                    long worth = at(worths, with(set, man));
                    if (worth > most) {
                        most = worth;
                        put(nexts, set, man);
                    }
                }
            }
        }

        private static int minuteWith(Sea waters, Crew crew, Course now, int set) {
            int minute = now.minute;
            for (int man = 0; man < crew.number; man++) {
                if (isIn(set, man) && !isIn(now.over, man)) {
                    minute += crew.takes(man, waters.far, now.hawser);
                }
            }
            return minute;
        }

        private static long holding(Sea waters, Course now, int minute) {
            long chance = WHOLE;
            for (int stage = now.stage(); stage < waters.stages; stage++) {
                if ((stage + 1) * STAGE_MINUTES > minute) {
                    return chance;
                }
                chance = chance / 10 * (10 - waters.breakTenths(stage));
            }
            return 0;
        }
    }

    /** ORDERS and SURE, by which men are the first to come and in how many ways the rest can. */
    private static final class Successions {
        private int number;
        private int all;
        private final int[] aheads = new int[MOST_MEN];
        private final int[] ways = new int[SETS];
        private final int[] rests = new int[SETS];

        void search(Crew crew, Course now) {
            number = crew.number;
            all = crew.all();
            for (int man = 0; man < number; man++) {
                put(aheads, man, crew.ahead(man) | now.saidAhead(man));
            }
            countWays();
            countRests();
        }

        int total() {
            return at(rests, 0);
        }

        int surePlace(int man) {
            int sure = NONE;
            for (int set = 0; set <= all; set++) {
                if (mayFollow(set, man) && at(ways, set) > 0 && at(rests, with(set, man)) > 0) {
                    int place = Integer.bitCount(set);
                    if (sure != NONE && sure != place) {
                        return NONE;
                    }
                    sure = place;
                }
            }
            return sure;
        }

        private void countWays() {
            Arrays.fill(ways, 0);
            put(ways, 0, 1);
            for (int set = 0; set <= all; set++) {
                for (int man = 0; man < number; man++) {
                    if (mayFollow(set, man)) {
                        int grown = with(set, man);
                        put(ways, grown, at(ways, grown) + at(ways, set));
                    }
                }
            }
        }

        private void countRests() {
            Arrays.fill(rests, 0);
            put(rests, all, 1);
            for (int set = all; set >= 0; set--) {
                for (int man = 0; man < number; man++) {
                    if (mayFollow(set, man)) {
                        put(rests, set, at(rests, set) + at(rests, with(set, man)));
                    }
                }
            }
        }

        private boolean mayFollow(int set, int man) {
            return !isIn(set, man) && holdsAll(set, at(aheads, man));
        }
    }

    /** One of NIGHTS, gone through on numbers of its own: nothing of the night itself changes. */
    private static final class Trial {
        long seed;
        int shots;
        boolean line;
        boolean broken;

        void run(Sea waters, Rockets rockets, Course now, int firstSeed) {
            seed = firstSeed;
            shots = 0;
            line = now.line;
            broken = now.broken;
            int left = rockets.left(now.fired);
            for (int stage = now.stage(); stage < waters.stages; stage++) {
                if (line || broken || left == 0) {
                    return;
                }
                int rocket = rockets.leastOf(left);
                left = without(left, rocket);
                shots++;
                line = waters.isRight(rockets.fallsAt(rocket, stage, drawGust(waters), waters));
                if (!line) {
                    int drawn = draw();
                    broken = waters.isLast(stage) || drawn < waters.breakTenths(stage);
                }
            }
        }

        private int drawGust(Sea waters) {
            int drawn = draw();
            if (drawn < waters.gustTenths(-1)) {
                return -1;
            }
            return drawn < waters.gustTenths(-1) + waters.gustTenths(0) ? 0 : 1;
        }

        private int draw() {
            seed = (1103515245L * seed + 12345) % (1L << 31);
            return (int) (seed / 65536 % 10);
        }
    }
}
