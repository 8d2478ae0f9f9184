/** Wagons on a ring of ground that keep ahead of the sun; see README.md. */
public final class WheelTown {
    public static final int BAD = -1, STATE = -2, FULL = -3, NONE = -9;
    public static final int NO = -1000000;

    private static final int MOST_BYTES = 200;
    private static final int LEAST_PLACES = 4, MOST_PLACES = 12, PLACES_AT_FIRST = 8;
    private static final int MOST_COST = 4, COST_AT_FIRST = 1;
    private static final int MOST_EACH = 9, EACH_AT_FIRST = 3;
    private static final int MOST_LEAD = 20, LEAD_AT_FIRST = 5;
    private static final int MOST_WAGONS = 5, MOST_PAIRS = 4;
    private static final int MOST_WAY_TOLD = 20, MOST_PACE = 3, MOST_WORK = 9, LAST_RAIL = 2;
    private static final int LAST_MINUTE = 999, LAST_SUN = 1100;
    private static final int MOST_ORDERED = 30, MOST_STAND = 99;
    private static final int MOST_UNDONE = 10;
    private static final int MOST_AHEAD = 60, SAFE_MINUTES = 40;
    private static final int LATEST_START = 6, MOST_STARTS = 3, NOBODY = -1;
    private static final int LAST_FALL = 99;
    private static final int MOST_CHANCES = 12, TENTHS = 10, MOST_NEARER = 20;
    private static final int LAST_KIND = 5;

    private final Reader reader;
    private final Plan plan;
    private final Chance chance;
    private final Moment trial;
    private final Story story;
    private final Story image0;
    private final Story image1;
    private Ground ground;
    private Ground draft;
    private long trace;

    public WheelTown() {
        reader = new Reader();
        plan = new Plan();
        chance = new Chance();
        trial = new Moment();
        story = new Story();
        image0 = new Story();
        image1 = new Story();
        ground = new Ground();
        draft = new Ground();
    }

    // ---- the world

    public int type(int c) {
        if (c < 0 || c > 255) {
            return BAD;
        }
        return reader.add(c) ? reader.length : FULL;
    }

    public int clear() {
        int had = reader.length;
        reader.length = 0;
        return had;
    }

    public int world() {
        draft.reset();
        int items = reader.tell(draft);
        if (items < 0) {
            return items;
        }
        draft.settle();
        // The two change places, so that no call makes a new one.
        Ground old = ground;
        ground = draft;
        draft = old;
        reader.length = 0;
        story.begin(ground.first);
        image0.kept = false;
        image1.kept = false;
        return items;
    }

    public int place(int p, int what) {
        if (!ground.hasPlace(p)) {
            return BAD;
        }
        switch (what) {
            case 0: return ground.cost[p];
            case 1: return ground.points >> p & 1;
            case 2: return ground.bridge == p ? 1 : 0;
            default: return BAD;
        }
    }

    public int wagon(int w, int what) {
        if (!ground.hasWagon(w)) {
            return BAD;
        }
        Moment now = story.now;
        switch (what) {
            case 0: return now.way[w];
            case 1: return ground.pace[w];
            case 2: return ground.work[w];
            case 3: return now.rail[w];
            case 4: return now.left[w];
            case 5: return now.stand[w];
            case 6: return now.done[w];
            case 7: return now.isCaught(w) ? 1 : 0;
            default: return BAD;
        }
    }

    public int now(int what) {
        switch (what) {
            case 0: return story.now.minute;
            case 1: return ground.places;
            case 2: return ground.each;
            case 3: return ground.lead;
            case 4: return story.now.caught;
            case 5: return ground.withWorkDone(story.now);
            default: return BAD;
        }
    }

    public int sun(int t) {
        return t < 0 || t > LAST_SUN ? NO : ground.sunWay(t, ground.lead);
    }

    // ---- minutes

    public int minute() {
        if (story.now.minute >= LAST_MINUTE) {
            return STATE;
        }
        story.remember();
        ground.pass(story.now);
        return Integer.bitCount(story.now.caught);
    }

    public int stand(int w, int n) {
        if (!ground.hasWagon(w) || n < 1 || n > MOST_ORDERED) {
            return BAD;
        }
        Moment now = story.now;
        if (now.isCaught(w) || now.stand[w] + n > MOST_STAND) {
            return STATE;
        }
        story.remember();
        now.stand[w] += n;
        return now.stand[w];
    }

    public int change(int w, int rail) {
        if (!ground.hasWagon(w) || rail < 0 || rail > LAST_RAIL) {
            return BAD;
        }
        Moment now = story.now;
        // Its own RAIL is refused as one on which a WAGON of its WAY is.
        if (now.isCaught(w) || !ground.hasPoints(now.way[w])
                || ground.isTaken(now, rail, now.way[w])) {
            return STATE;
        }
        story.remember();
        int old = now.rail[w];
        now.rail[w] = rail;
        return old;
    }

    public int undo() {
        return story.takeBack() ? story.known : STATE;
    }

    // ---- what comes

    public int behind(int n, int w, int what) {
        if (n < 0 || n > MOST_AHEAD || !ground.hasWagon(w) || what < 0 || what > 1) {
            return BAD;
        }
        trial.copyFrom(story.now);
        for (int t = 0; t < n; t++) {
            ground.pass(trial);
        }
        if (what == 0) {
            return trial.way[w];
        }
        return trial.isCaught(w) ? 1 : 0;
    }

    public int caught(int what) {
        if (what < 0 || what > 1) {
            return BAD;
        }
        trial.copyFrom(story.now);
        for (int t = 1; t <= MOST_AHEAD; t++) {
            ground.pass(trial);
            int more = trial.caught & ~story.now.caught;
            if (more != 0) {
                return what == 0 ? t : leastOf(more);
            }
        }
        return NONE;
    }

    public int waits(int what) {
        if (what < 0 || what > 1) {
            return BAD;
        }
        trial.copyFrom(story.now);
        for (int t = 1; t <= MOST_AHEAD; t++) {
            int first = ground.pass(trial);
            if (first != NOBODY) {
                return what == 0 ? t : first;
            }
        }
        return NONE;
    }

    public int stands(int w) {
        if (!ground.hasWagon(w)) {
            return BAD;
        }
        if (story.now.isCaught(w)) {
            return STATE;
        }
        plan.gatherNone();
        // A longer stand may be safe where a shorter one is not (others are let by), so all are tried.
        for (int n = Math.min(MOST_ORDERED, MOST_STAND - story.now.stand[w]); n >= 0; n--) {
            trial.copyFrom(story.now);
            trial.stand[w] += n;
            if (isTrialSafe()) {
                return n;
            }
        }
        return NONE;
    }

    public int starts(int w) {
        if (w != NOBODY && !ground.hasWagon(w)) {
            return BAD;
        }
        plan.gather(ground, story.now);
        if (!findStarts()) {
            return NONE;
        }
        return w == NOBODY ? plan.sum() : plan.startOf(w);
    }

    public int bars() {
        plan.gather(ground, story.now);
        if (findStarts()) {
            return NONE;
        }
        for (int i = 0; i < plan.size && i < MOST_STARTS; i++) {
            plan.spared = i;
            if (findStarts()) {
                return plan.who[i];
            }
        }
        return NONE;
    }

    public int pieces(int rail, int n) {
        if (rail < 0 || rail > LAST_RAIL || n < 0 || n > MOST_AHEAD) {
            return BAD;
        }
        trial.copyFrom(story.now);
        int most = ground.lengthOn(trial, rail);
        for (int t = 0; t < n; t++) {
            ground.pass(trial);
            most = Math.max(most, ground.lengthOn(trial, rail));
        }
        return most;
    }

    // ---- a year on, chance

    public int met(int p, int m) {
        if (!ground.hasPlace(p) || m < 0 || m > LAST_FALL) {
            return BAD;
        }
        trial.copyFrom(ground.first);
        for (int t = 0; t < m; t++) {
            ground.pass(trial);
        }
        return ground.wagonsAt(trial, p) & ~trial.caught;
    }

    public long odds(int w, int x, int n, int what) {
        if (!isChance(w, x, n) || what < 0 || what > 1) {
            return BAD;
        }
        if (story.now.isCaught(w)) {
            return STATE;
        }
        chance.foresee(ground, story.now, w);
        long upper = chance.runsAhead(ground, x, n, ground.lead);
        long lower = powerOfTen(n);
        long common = Math.max(1, commonDivisor(lower, upper));
        return (what == 0 ? upper : lower) / common;
    }

    public int keepAhead(int w, int x, int n, int c) {
        if (!isChance(w, x, n) || c < 0 || c > TENTHS) {
            return BAD;
        }
        if (story.now.isCaught(w)) {
            return STATE;
        }
        chance.foresee(ground, story.now, w);
        long due = c * powerOfTen(n);
        for (int nearer = MOST_NEARER; nearer >= 0; nearer--) {
            if (TENTHS * chance.runsAhead(ground, x, n, ground.lead - nearer) >= due) {
                return nearer;
            }
        }
        return NONE;
    }

    // ---- kinds, images

    public int mark(int kind, int w) {
        if (kind < 0 || kind > LAST_KIND || !ground.hasWagon(w)) {
            return NO;
        }
        switch (kind) {
            case 0: return wagonMark(w);
            case 1: return forgeMark(w);
            case 2: return chapelMark(w);
            case 3: return tenderMark(w);
            case 4: return houseMark(w);
            default: return railcartMark(w);
        }
    }

    public int keep(int image) {
        if (image < 0 || image > 1) {
            return BAD;
        }
        Story kept = image == 0 ? image0 : image1;
        kept.copyFrom(story);
        kept.kept = true;
        return story.now.minute;
    }

    public int back(int image) {
        if (image < 0 || image > 1) {
            return BAD;
        }
        Story kept = image == 0 ? image0 : image1;
        if (!kept.kept) {
            return STATE;
        }
        story.copyFrom(kept);
        return story.now.minute;
    }

    public int count(int what) {
        switch (what) {
            case 0: return ground.wagons;
            case 1: return ground.pairs;
            case 2: return Integer.bitCount(ground.points);
            case 3: return story.known;
            case 4: return reader.length;
            default: return BAD;
        }
    }

    public long trace() {
        return trace;
    }

    private static int leastOf(int bits) {
        for (int w = 0; w < MOST_WAGONS; w++) {
            if ((bits >> w & 1) == 1) {
                return w;
            }
        }
        return NONE;
    }

    // ---- starts

    /** Tries the starts, the least together first and then by wagons' numbers, so the first that is safe is due. */
    private boolean findStarts() {
        int most0 = plan.latest(0);
        int most1 = plan.latest(1);
        int most2 = plan.latest(2);
        for (int sum = 0; sum <= most0 + most1 + most2; sum++) {
            for (int s0 = 0; s0 <= most0 && s0 <= sum; s0++) {
                for (int s1 = Math.max(0, sum - s0 - most2); s1 <= most1 && s0 + s1 <= sum; s1++) {
                    plan.setStarts(s0, s1, sum - s0 - s1);
                    trial.copyFrom(story.now);
                    if (isTrialSafe()) {
                        return true;
                    }
                }
            }
        }
        return false;
    }

    /** Whether the trial, by the plan's orders, goes on with nobody more caught. */
    private boolean isTrialSafe() {
        for (int t = 0; t < SAFE_MINUTES; t++) {
            plan.order(trial, t);
            ground.pass(trial);
            // Who is caught stays so: there is no need to look further.
            if (trial.caught != story.now.caught) {
                return false;
            }
        }
        return true;
    }

    // ---- chance

    private boolean isChance(int w, int x, int n) {
        return ground.hasWagon(w) && x >= 0 && x <= TENTHS && n >= 0 && n <= MOST_CHANCES;
    }

    private static long powerOfTen(int n) {
        long power = 1;
        for (int i = 0; i < n && i < MOST_CHANCES; i++) {
            power *= TENTHS;
        }
        return power;
    }

    private static long commonDivisor(long a, long b) {
        long big = a;
        long small = b;
        // Euclid's steps on numbers up to 10^12 are fewer than 100.
        for (int i = 0; i < 100 && small != 0; i++) {
            long rest = big % small;
            big = small;
            small = rest;
        }
        return big;
    }

    // ---- kinds: each body counts itself in the trace, then asks the kind above

    private int wagonMark(int w) {
        trace += 1;
        return story.now.way[w];
    }

    private int forgeMark(int w) {
        trace += 10;
        return wagonMark(w) + story.now.done[w];
    }

    private int chapelMark(int w) {
        trace += 100;
        return wagonMark(w) - ground.pace[w];
    }

    private int tenderMark(int w) {
        trace += 1000;
        return forgeMark(w) * 2;
    }

    private int houseMark(int w) {
        trace += 10000;
        return chapelMark(w) + story.now.rail[w];
    }

    private int railcartMark(int w) {
        trace += 100000;
        int sunNow = ground.sunWay(story.now.minute, ground.lead);
        return wagonMark(w) + story.now.way[w] - sunNow;
    }

    /** Of the wagons, all that goes on by minutes and orders. */
    private static final class Moment {
        int minute;
        int caught;
        final int[] way = new int[MOST_WAGONS];
        final int[] rail = new int[MOST_WAGONS];
        final int[] left = new int[MOST_WAGONS];
        final int[] stand = new int[MOST_WAGONS];
        final int[] done = new int[MOST_WAGONS];

        void copyFrom(Moment other) {
            minute = other.minute;
            caught = other.caught;
            System.arraycopy(other.way, 0, way, 0, MOST_WAGONS);
            System.arraycopy(other.rail, 0, rail, 0, MOST_WAGONS);
            System.arraycopy(other.left, 0, left, 0, MOST_WAGONS);
            System.arraycopy(other.stand, 0, stand, 0, MOST_WAGONS);
            System.arraycopy(other.done, 0, done, 0, MOST_WAGONS);
        }

        boolean isCaught(int w) {
            return (caught >> w & 1) == 1;
        }
    }

    /** Now and what may be undone: just what an image keeps. */
    private static final class Story {
        final Moment now;
        final Moment[] past;
        int known;
        boolean kept;

        Story() {
            now = new Moment();
            past = new Moment[MOST_UNDONE];
            for (int i = 0; i < MOST_UNDONE; i++) {
                past[i] = new Moment();
            }
        }

        void begin(Moment first) {
            now.copyFrom(first);
            known = 0;
        }

        void remember() {
            if (known >= MOST_UNDONE) {
                loseOldest();
            }
            if (known >= 0 && known < MOST_UNDONE && past[known] != null) {
                past[known].copyFrom(now);
                known++;
            }
        }

        /** The oldest's room goes to the end, to be written anew. */
        private void loseOldest() {
            Moment oldest = past[0];
            for (int i = 1; i < MOST_UNDONE; i++) {
                past[i - 1] = past[i];
            }
            past[MOST_UNDONE - 1] = oldest;
            known = MOST_UNDONE - 1;
        }

        boolean takeBack() {
            if (known < 1 || known > MOST_UNDONE || past[known - 1] == null) {
                return false;
            }
            known--;
            now.copyFrom(past[known]);
            return true;
        }

        void copyFrom(Story other) {
            now.copyFrom(other.now);
            known = other.known;
            for (int i = 0; i < known && i < MOST_UNDONE; i++) {
                if (past[i] != null && other.past[i] != null) {
                    past[i].copyFrom(other.past[i]);
                }
            }
        }
    }

    /** What the text tells and nothing changes, and how a minute goes by on it. */
    private static final class Ground {
        int places;
        int each;
        int lead;
        boolean sunTold;
        int bridge;
        int points;
        int wagons;
        int pairs;
        final int[] cost = new int[MOST_PLACES];
        final int[] pace = new int[MOST_WAGONS];
        final int[] work = new int[MOST_WAGONS];
        final int[] hitchedA = new int[MOST_PAIRS];
        final int[] hitchedB = new int[MOST_PAIRS];
        final Moment first = new Moment();

        Ground() {
            reset();
        }

        void reset() {
            places = PLACES_AT_FIRST;
            each = EACH_AT_FIRST;
            lead = LEAD_AT_FIRST;
            sunTold = false;
            bridge = NONE;
            points = 0;
            wagons = 0;
            pairs = 0;
            for (int p = 0; p < MOST_PLACES; p++) {
                cost[p] = COST_AT_FIRST;
            }
        }

        void addWagon(int way, int ownPace, int itsWork, int rail) {
            if (wagons < 0 || wagons >= MOST_WAGONS) {
                return;
            }
            pace[wagons] = ownPace;
            work[wagons] = itsWork;
            first.way[wagons] = way;
            first.rail[wagons] = rail;
            wagons++;
        }

        void addPair(int a, int b) {
            if (pairs < 0 || pairs >= MOST_PAIRS) {
                return;
            }
            hitchedA[pairs] = a;
            hitchedB[pairs] = b;
            pairs++;
        }

        /** When all is told: paces by hitches, then what is left to each at first. */
        void settle() {
            // By every round a pace comes one pair further, so as many rounds as pairs are enough.
            for (int round = 0; round < pairs && round < MOST_PAIRS; round++) {
                joinPaces();
            }
            for (int w = 0; w < wagons && w < MOST_WAGONS; w++) {
                first.left[w] = minutesFor(w, first.way[w]);
            }
        }

        private void joinPaces() {
            for (int i = 0; i < pairs && i < MOST_PAIRS; i++) {
                int a = hitchedA[i];
                int b = hitchedB[i];
                if (hasWagon(a) && hasWagon(b)) {
                    int greatest = Math.max(pace[a], pace[b]);
                    pace[a] = greatest;
                    pace[b] = greatest;
                }
            }
        }

        boolean hasPlace(int p) {
            return p >= 0 && p < places && p < MOST_PLACES;
        }

        boolean hasWagon(int w) {
            return w >= 0 && w < wagons && w < MOST_WAGONS;
        }

        boolean hasPoints(int way) {
            return (points >> placeOf(way) & 1) == 1;
        }

        int placeOf(int way) {
            return places < 1 ? 0 : way % places;
        }

        int minutesFor(int w, int way) {
            int p = placeOf(way);
            return (hasPlace(p) ? cost[p] : COST_AT_FIRST) + (hasWagon(w) ? pace[w] : 0);
        }

        int sunWay(int t, int itsLead) {
            return each < 1 ? -itsLead : t / each - itsLead;
        }

        boolean isTaken(Moment m, int rail, int way) {
            for (int w = 0; w < wagons && w < MOST_WAGONS; w++) {
                if (m.way[w] == way && m.rail[w] == rail) {
                    return true;
                }
            }
            return false;
        }

        /** A minute goes by: the first wagon that waits in it, or NOBODY. */
        int pass(Moment m) {
            int waiting = NOBODY;
            int gone = 0;
            for (int i = 0; i < wagons && i < MOST_WAGONS; i++) {
                int w = foremost(m, gone);
                if (w != NOBODY) {
                    gone |= 1 << w;
                    if (!goOn(m, w) && waiting == NOBODY) {
                        waiting = w;
                    }
                }
            }
            m.minute++;
            catchLate(m);
            return waiting;
        }

        private int foremost(Moment m, int gone) {
            int best = NOBODY;
            for (int w = 0; w < wagons && w < MOST_WAGONS; w++) {
                if ((gone >> w & 1) == 0 && (best == NOBODY || m.way[w] > m.way[best])) {
                    best = w;
                }
            }
            return best;
        }

        /** What one wagon does in a minute: false if it waits. */
        private boolean goOn(Moment m, int w) {
            if (m.isCaught(w)) {
                return true;
            }
            if (m.stand[w] > 0) {
                m.stand[w]--;
                m.done[w]++;
                return true;
            }
            m.left[w] = Math.max(0, m.left[w] - 1);
            if (m.left[w] > 0) {
                return true;
            }
            int next = m.way[w] + 1;
            if (isBarred(m, m.rail[w], next)) {
                return false;
            }
            m.way[w] = next;
            m.left[w] = minutesFor(w, next);
            return true;
        }

        private boolean isBarred(Moment m, int rail, int way) {
            boolean alone = placeOf(way) == bridge;
            for (int w = 0; w < wagons && w < MOST_WAGONS; w++) {
                if (m.way[w] == way && (alone || m.rail[w] == rail)) {
                    return true;
                }
            }
            return false;
        }

        private void catchLate(Moment m) {
            int reached = sunWay(m.minute, lead);
            for (int w = 0; w < wagons && w < MOST_WAGONS; w++) {
                if (m.way[w] <= reached) {
                    m.caught |= 1 << w;
                }
            }
        }

        int withWorkDone(Moment m) {
            int bits = 0;
            for (int w = 0; w < wagons && w < MOST_WAGONS; w++) {
                if (m.done[w] >= work[w]) {
                    bits |= 1 << w;
                }
            }
            return bits;
        }

        int wagonsAt(Moment m, int p) {
            int bits = 0;
            for (int w = 0; w < wagons && w < MOST_WAGONS; w++) {
                if (placeOf(m.way[w]) == p) {
                    bits |= 1 << w;
                }
            }
            return bits;
        }

        /** From the last to the first wagon of a rail, both too. */
        int lengthOn(Moment m, int rail) {
            int last = NOBODY;
            int foremost = NOBODY;
            for (int w = 0; w < wagons && w < MOST_WAGONS; w++) {
                if (m.rail[w] == rail) {
                    last = last == NOBODY ? m.way[w] : Math.min(last, m.way[w]);
                    foremost = Math.max(foremost, m.way[w]);
                }
            }
            return last == NOBODY ? 0 : foremost - last + 1;
        }
    }

    /** The wagons that lack minutes of their work, and when each is told to stand. */
    private static final class Plan {
        int size;
        int spared;
        final int[] who = new int[MOST_STARTS];
        final int[] lack = new int[MOST_STARTS];
        final int[] start = new int[MOST_STARTS];

        void gatherNone() {
            size = 0;
            spared = NOBODY;
        }

        void gather(Ground ground, Moment now) {
            gatherNone();
            for (int w = 0; w < ground.wagons && w < MOST_WAGONS && size < MOST_STARTS; w++) {
                int rest = ground.work[w] - now.done[w] - now.stand[w];
                if (rest > 0 && !now.isCaught(w)) {
                    who[size] = w;
                    lack[size] = rest;
                    size++;
                }
            }
        }

        void setStarts(int s0, int s1, int s2) {
            start[0] = s0;
            start[1] = s1;
            start[2] = s2;
        }

        int latest(int i) {
            return i < size && i != spared ? LATEST_START : 0;
        }

        void order(Moment m, int t) {
            for (int i = 0; i < size && i < MOST_STARTS; i++) {
                if (start[i] == t && i != spared && !m.isCaught(who[i])) {
                    m.stand[who[i]] += lack[i];
                }
            }
        }

        int sum() {
            int sum = 0;
            for (int i = 0; i < size && i < MOST_STARTS; i++) {
                sum += start[i];
            }
            return sum;
        }

        int startOf(int w) {
            for (int i = 0; i < size && i < MOST_STARTS; i++) {
                if (who[i] == w) {
                    return start[i];
                }
            }
            return 0;
        }
    }

    /** A wagon alone: where it comes by so many minutes of going, and how many of all runs keep it ahead. */
    private static final class Chance {
        int minute;
        final int[] wayBy = new int[MOST_CHANCES + 1];
        final long[] runs = new long[MOST_CHANCES + 1];

        void foresee(Ground ground, Moment now, int w) {
            minute = now.minute;
            int way = now.way[w];
            int left = now.left[w];
            wayBy[0] = way;
            for (int gone = 1; gone <= MOST_CHANCES; gone++) {
                left = Math.max(0, left - 1);
                if (left == 0) {
                    way++;
                    left = ground.minutesFor(w, way);
                }
                wayBy[gone] = way;
            }
        }

        /** Of 10 to the n runs, those in which it is never caught by a sun of that lead. */
        long runsAhead(Ground ground, int x, int n, int lead) {
            for (int gone = 0; gone <= MOST_CHANCES; gone++) {
                runs[gone] = gone == 0 ? 1 : 0;
            }
            for (int t = 1; t <= n && t <= MOST_CHANCES; t++) {
                chanceMinute(x, t, ground.sunWay(minute + t, lead));
            }
            long ahead = 0;
            for (int gone = 0; gone <= MOST_CHANCES; gone++) {
                ahead += runs[gone];
            }
            return ahead;
        }

        /** Downward, as each is made of itself and the one below, both as they were. */
        private void chanceMinute(int x, int t, int reached) {
            for (int gone = Math.min(t, MOST_CHANCES); gone >= 0; gone--) {
                long stood = runs[gone] * x;
                long went = gone > 0 ? runs[gone - 1] * (TENTHS - x) : 0;
                runs[gone] = wayBy[gone] > reached ? stood + went : 0;
            }
        }
    }

    /** The text, and the reading of it token by token. */
    private static final class Reader {
        private static final int END = 0, LETTERS = 1, NUMBER = 2, STOP = 3, WRONG = 4;
        private static final int TOO_GREAT = 100, BLANK = 32;

        final int[] bytes = new int[MOST_BYTES];
        int length;
        private int at;
        private int token;
        private int first;
        private int value;
        private boolean faulty;

        boolean add(int c) {
            if (length < 0 || length >= MOST_BYTES) {
                return false;
            }
            bytes[length] = c;
            length++;
            return true;
        }

        /** How many items there are, told to the ground; -10 less the fault, if there is one. */
        int tell(Ground ground) {
            at = 0;
            faulty = false;
            int items = 0;
            readToken();
            // An item has two bytes at least, so there are fewer than bytes.
            for (int i = 0; i <= MOST_BYTES && token != END && !faulty; i++) {
                tellItem(ground, items);
                readStop();
                items++;
                if (!faulty) {
                    readToken();
                }
            }
            return faulty ? -10 - first : items;
        }

        private void tellItem(Ground ground, int itemsAhead) {
            switch (token == LETTERS ? value : 0) {
                case 'r': tellRing(ground, itemsAhead); break;
                case 'c': tellCost(ground); break;
                case 's': tellSun(ground); break;
                case 'b': tellBridge(ground); break;
                case 'p': ground.points |= 1 << readNumber(0, ground.places - 1); break;
                case 'w': tellWagon(ground); break;
                case 'h': tellPair(ground); break;
                default: faulty = true; break;
            }
        }

        private void tellRing(Ground ground, int itemsAhead) {
            faulty = itemsAhead > 0;
            ground.places = readNumber(LEAST_PLACES, MOST_PLACES);
        }

        private void tellCost(Ground ground) {
            int p = readNumber(0, ground.places - 1);
            int minutes = readNumber(1, MOST_COST);
            if (ground.hasPlace(p)) {
                ground.cost[p] = minutes;
            }
        }

        private void tellSun(Ground ground) {
            faulty = ground.sunTold;
            ground.sunTold = true;
            ground.each = readNumber(1, MOST_EACH);
            ground.lead = readNumber(1, MOST_LEAD);
        }

        private void tellBridge(Ground ground) {
            faulty = ground.bridge != NONE;
            ground.bridge = readNumber(0, ground.places - 1);
        }

        private void tellWagon(Ground ground) {
            faulty = ground.wagons >= MOST_WAGONS;
            int way = readNumber(0, MOST_WAY_TOLD);
            int pace = readNumber(0, MOST_PACE);
            int work = readNumber(0, MOST_WORK);
            int rail = readNumber(0, LAST_RAIL);
            if (!faulty) {
                faulty = ground.isTaken(ground.first, rail, way);
            }
            if (!faulty) {
                ground.addWagon(way, pace, work, rail);
            }
        }

        private void tellPair(Ground ground) {
            faulty = ground.pairs >= MOST_PAIRS;
            int a = readNumber(0, ground.wagons - 1);
            int b = readNumber(0, ground.wagons - 1);
            if (!faulty) {
                faulty = a == b;
            }
            if (!faulty) {
                ground.addPair(a, b);
            }
        }

        /** The next number; where a fault is already, nothing is read, so that the fault's place stays. */
        private int readNumber(int least, int most) {
            if (faulty) {
                return least;
            }
            readToken();
            if (token != NUMBER || value < least || value > most) {
                faulty = true;
                return least;
            }
            return value;
        }

        private void readStop() {
            if (!faulty) {
                readToken();
                faulty = token != STOP;
            }
        }

        private void readToken() {
            while (at < length && at < MOST_BYTES && bytes[at] == BLANK) {
                at++;
            }
            first = at;
            value = 0;
            if (at >= length || at >= MOST_BYTES) {
                token = END;
            } else if (isLetter(bytes[at])) {
                readLetters();
            } else if (isDigit(bytes[at])) {
                readDigits();
            } else {
                token = bytes[at] == ';' ? STOP : WRONG;
                at++;
            }
        }

        /** One letter's value is itself; several begin no item. */
        private void readLetters() {
            token = LETTERS;
            value = bytes[first];
            for (at = first + 1; at < length && at < MOST_BYTES && isLetter(bytes[at]); at++) {
                value = 0;
            }
        }

        private void readDigits() {
            token = bytes[first] == '0' && first + 1 < length && first + 1 < MOST_BYTES
                    && isDigit(bytes[first + 1]) ? WRONG : NUMBER;
            for (at = first; at < length && at < MOST_BYTES && isDigit(bytes[at]); at++) {
                value = Math.min(TOO_GREAT, value * 10 + bytes[at] - '0');
            }
        }

        private static boolean isLetter(int c) {
            return c >= 'a' && c <= 'z';
        }

        private static boolean isDigit(int c) {
            return c >= '0' && c <= '9';
        }
    }
}
