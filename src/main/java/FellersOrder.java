/**
 * Jobs that are done one behind the other, each with a length and a weight, some ahead of others, and
 * the orders of them that make the weighted waiting least.
 */
public final class FellersOrder {
    public static final int NONE = -1;

    private static final int REFUSED = -1;
    private static final int NO_PLACES = -1000000000;
    private static final int NONE_LACKS = -2;

    private static final int MOST_JOBS = 12;
    private static final int MOST_CHANGES = 12;
    private static final int MOST_BODIES = 50;
    private static final int SHEETS = 6;
    private static final int MOST_NUMBERS = 20;

    private static final int DONE = 0;
    private static final int OUTSIDE = 1;
    private static final int NO_ROOM = 2;
    private static final int NOT_SO = 3;
    private static final int NOTHING_THERE = 10;
    private static final int OTHER_SORT = 11;
    private static final int PLACE_OUTSIDE = 12;
    private static final int SIZE_BELOW_0 = 13;
    private static final int DOES_NOT_FIT = 14;
    private static final int DIVIDED_BY_0 = 15;

    private static final int LENGTH = 0;
    private static final int WEIGHT = 1;
    private static final int MOMENT = 2;

    private static final int PLAIN = 0;
    private static final int UNIT = 1;
    private static final int IDLE = 2;
    private static final int FIRST = 3;
    private static final int LATE = 4;

    private static final int MISSING = -1;
    private static final int SHORTS = 0;
    private static final int INTS = 1;
    private static final int LONGS = 2;

    private static final int FORGES = 6;
    private static final int FARTHEST_FORGE = 100;
    private static final int COPY_ROW = 7;

    private final Yard yard;
    private final Plan plan;
    private final Line line;
    private final History history;
    private final Acting acting;
    private final JobKind[] kinds;
    private final Sheet[] sheets;
    private int latest;

    public FellersOrder() {
        yard = new Yard();
        plan = new Plan();
        line = new Line();
        history = new History();
        acting = new Acting();
        kinds = new JobKind[] {new JobKind(), new UnitKind(), new IdleKind(), new FirstKind(), new LateKind()};
        sheets = new Sheet[SHEETS];
        for (int sheet = 0; sheet < SHEETS; sheet++) {
            sheets[sheet] = new Sheet();
        }
        latest = DONE;
    }

    public int job(int length, int weight) {
        if (!Yard.allows(LENGTH, length) || !Yard.allows(WEIGHT, weight)) {
            return refused(OUTSIDE);
        }
        if (yard.isFull()) {
            return refused(NO_ROOM);
        }
        return done(bringJob(length, weight));
    }

    public int set(int job, int what, int v) {
        if (!yard.has(job) || !Yard.allows(what, v)) {
            return refused(OUTSIDE);
        }
        int former = yard.measure(job, what);
        yard.measureAnew(job, what, v);
        history.keep(History.MEASURED, job, what, former);
        return done(former);
    }

    public int lay(int a, int b) {
        if (!yard.has(a) || !yard.has(b)) {
            return refused(OUTSIDE);
        }
        if (a == b || yard.isLaid(a, b) || yard.isAhead(b, a)) {
            return refused(NOT_SO);
        }
        yard.bind(a, b);
        history.keep(History.BOUND, a, b, 0);
        return done(1);
    }

    public int free(int a, int b) {
        if (!yard.has(a) || !yard.has(b)) {
            return refused(OUTSIDE);
        }
        if (!yard.isLaid(a, b)) {
            return refused(NOT_SO);
        }
        yard.unbind(a, b);
        history.keep(History.UNBOUND, a, b, 0);
        return done(1);
    }

    public int put(int job) {
        if (!yard.has(job)) {
            return refused(OUTSIDE);
        }
        if (line.placeOf(job) != NONE) {
            return refused(NOT_SO);
        }
        line.append(job);
        return done(line.size());
    }

    public int clear() {
        int had = line.size();
        line.empty();
        return done(had);
    }

    public int told(int job, int what) {
        if (!yard.has(job)) {
            return NONE;
        }
        switch (what) {
            case LENGTH:
            case WEIGHT:
            case MOMENT:
                return yard.measure(job, what);
            case 3:
                return yard.kindOf(job);
            case 4:
                return Integer.bitCount(yard.aheadOf(job));
            case 5:
                return Integer.bitCount(yard.behind(job));
            case 6:
                return line.placeOf(job);
            case 7:
                return plan.blockOf(yard, job);
            default:
                return NONE;
        }
    }

    public int ahead(int a, int b) {
        if (!yard.has(a) || !yard.has(b)) {
            return NONE;
        }
        if (yard.isLaid(a, b)) {
            return 2;
        }
        return asNumber(yard.isAhead(a, b));
    }

    public int count(int what) {
        switch (what) {
            case 0:
                return yard.jobs();
            case 1:
                return yard.laidPairs();
            case 2:
                return line.size();
            case 3:
                return plan.blocks(yard);
            case 4:
                return yard.beginnings();
            case 5:
                return acting.begun();
            case 6:
                return history.size();
            default:
                return NONE;
        }
    }

    public int keeps() {
        return asNumber(line.isKept(yard));
    }

    public int why(int what) {
        if (what < 0 || what > 1 || line.isKept(yard)) {
            return NONE;
        }
        int place = line.firstLacking(yard);
        if (what == 0) {
            return place == NONE ? NONE_LACKS : line.jobAt(place);
        }
        int lacking = place == NONE
                ? yard.everyJob() & ~line.bitsBefore(line.size())
                : line.lackingAt(yard, place);
        return Integer.numberOfTrailingZeros(lacking);
    }

    public int cost() {
        return line.weightedWaiting(yard);
    }

    public int swap(int i) {
        if (i < 0 || i >= line.size() - 1) {
            return NO_PLACES;
        }
        int before = line.weightedWaiting(yard);
        line.exchange(i);
        int after = line.weightedWaiting(yard);
        line.exchange(i);
        return after - before;
    }

    public int block(int i, int what) {
        if (i < 0 || i >= plan.blocks(yard)) {
            return NONE;
        }
        int bits = plan.blockBits(i);
        switch (what) {
            case 0:
                return bits;
            case 1:
                return yard.weightOf(bits);
            case 2:
                return yard.lengthOf(bits);
            default:
                return NONE;
        }
    }

    public int least() {
        return plan.leastCost(yard);
    }

    public int best(int i) {
        return yard.has(i) ? plan.bestAt(yard, i) : NONE;
    }

    public int many() {
        return plan.bestOrders(yard);
    }

    public int fixed(int a, int b) {
        if (!yard.has(a) || !yard.has(b) || a == b) {
            return NONE;
        }
        return asNumber(!plan.mayStandAhead(yard, b, a));
    }

    public int series() {
        return asNumber(yard.findCrossing() == NONE);
    }

    public int shows(int i) {
        int crossing = yard.findCrossing();
        if (crossing == NONE || i < 0 || i > 3) {
            return NONE;
        }
        return Yard.jobOfCrossing(crossing, i);
    }

    /**
     * A cost is the sum of length(p) * weight(q) over all p that stand ahead of q or are q. Lengths and
     * weights changed over and an order read from its end give the same sum, so LEAST is the same, too.
     */
    public int turned() {
        for (int job = 0; job < yard.jobs(); job++) {
            if (yard.measure(job, WEIGHT) == 0) {
                return NONE;
            }
        }
        return plan.leastCost(yard);
    }

    public int act(int job, int act, int x) {
        if (!yard.has(job) || act < 0 || act > 3) {
            return refused(OUTSIDE);
        }
        acting.take(yard, job);
        JobKind kind = kinds[yard.kindOf(job)];
        switch (act) {
            case 0:
                return done(kind.last(acting, x));
            case 1:
                return done(kind.weigh(acting, x));
            case 2:
                return done(kind.follow(acting, x));
            default:
                return done(kind.tell(acting, x));
        }
    }

    public int trace(int i) {
        return acting.bodyAt(i);
    }

    public int sheet(int sheet, int sort, int n) {
        if (!isSheet(sheet) || sort < MISSING || sort > LONGS) {
            return refused(OUTSIDE);
        }
        if (sort == MISSING) {
            sheets[sheet].remove();
            return done(1);
        }
        if (n < 0 || n > MOST_NUMBERS) {
            return refused(OUTSIDE);
        }
        sheets[sheet].make(sort, n);
        return done(1);
    }

    public int cell(int sheet, int i, int v) {
        if (!isSheet(sheet)) {
            return refused(OUTSIDE);
        }
        Sheet written = sheets[sheet];
        if (written.isMissing()) {
            return refused(NOTHING_THERE);
        }
        if (i < 0 || i >= written.size()) {
            return refused(PLACE_OUTSIDE);
        }
        written.write(i, v);
        return done(1);
    }

    public int fromSheet(int sheet, int sort, int i) {
        if (!isSheet(sheet) || sort < SHORTS || sort > LONGS) {
            return refused(OUTSIDE);
        }
        if (yard.isFull()) {
            return refused(NO_ROOM);
        }
        Sheet read = sheets[sheet];
        int refusal = read.refusalAs(sort);
        if (refusal != DONE) {
            return refused(refusal);
        }
        if (i < 0 || i >= read.size() - 1) {
            return refused(PLACE_OUTSIDE);
        }
        int length = read.numberAt(i);
        int weight = read.numberAt(i + 1);
        if (!Yard.allows(LENGTH, length) || !Yard.allows(WEIGHT, weight)) {
            return refused(NOT_SO);
        }
        return done(bringJob(length, weight));
    }

    public int forge(int sheet, int what, int n) {
        if (!isSheet(sheet) || what < 0 || what > FORGES || n < -FARTHEST_FORGE || n > FARTHEST_FORGE) {
            return refused(OUTSIDE);
        }
        Sheet forged = sheets[sheet];
        switch (what) {
            case 0:
                return forgeSize(forged, Math.floorMod(n, 3));
            case 1:
                return n < 0 ? refused(SIZE_BELOW_0) : done(n);
            case 2:
                return forgeCopy(forged, n);
            case 3:
                return forgeLaying(forged);
            case 4:
                return n == 0 ? refused(DIVIDED_BY_0) : done(1000 / n);
            case 5:
                return Math.floorMod(n, 2) == 0 ? refused(NOTHING_THERE) : done(1);
            default:
                return forgeUnit(Math.floorMod(n, MOST_JOBS));
        }
    }

    public int undo() {
        if (history.size() == 0) {
            return refused(NOT_SO);
        }
        history.takeBack(yard);
        line.empty();
        return done(1);
    }

    public int status() {
        return latest;
    }

    private int done(int answer) {
        latest = DONE;
        return answer;
    }

    private int refused(int reason) {
        latest = reason;
        return REFUSED;
    }

    private int bringJob(int length, int weight) {
        int job = yard.add(length, weight);
        history.keep(History.CAME, job, 0, 0);
        return job;
    }

    private int forgeSize(Sheet forged, int sort) {
        int refusal = forged.refusalAs(sort);
        return refusal == DONE ? done(forged.size()) : refused(refusal);
    }

    private int forgeCopy(Sheet forged, int n) {
        int refusal = forged.refusalAs(INTS);
        if (refusal != DONE) {
            return refused(refusal);
        }
        if (n < 0 || 1 + n > forged.size() || n + n > COPY_ROW) {
            return refused(PLACE_OUTSIDE);
        }
        // All else in the new row is 0, so that its sum is the sum of what is copied.
        return done(forged.sumFrom(1, n));
    }

    private int forgeLaying(Sheet forged) {
        if (forged.isMissing()) {
            return done(0);
        }
        return forged.isOfSort(SHORTS) ? done(forged.size()) : refused(DOES_NOT_FIT);
    }

    private int forgeUnit(int job) {
        if (!yard.has(job)) {
            return refused(NOTHING_THERE);
        }
        if (kinds[yard.kindOf(job)] instanceof UnitKind) {
            return done(yard.measure(job, LENGTH));
        }
        return refused(OTHER_SORT);
    }

    private static boolean isSheet(int sheet) {
        return sheet >= 0 && sheet < SHEETS;
    }

    private static int asNumber(boolean so) {
        return so ? 1 : 0;
    }

    private static boolean hasBit(int bits, int job) {
        return (bits >> job & 1) == 1;
    }

    /** The jobs, what is laid of them, and what follows from it; a set of jobs is told by its bits. */
    private static final class Yard {
        private static final int[] LOWEST = {1, 0, 0};
        private static final int[] HIGHEST = {100, 100, 500};
        private static final int HALF_JOBS = 6;
        private static final int HALF = 1 << HALF_JOBS;

        private final int[][] measures = new int[3][MOST_JOBS];
        private final int[] laid = new int[MOST_JOBS];
        private final int[] ahead = new int[MOST_JOBS];
        private final int[] behind = new int[MOST_JOBS];
        // A plan asks for these of thousands of sets: they are kept for each half of the jobs (the low
        // half first), so that a set's are put together of two.
        private final int[] lengths = new int[2 * HALF];
        private final int[] weights = new int[2 * HALF];
        private final int[] needs = new int[2 * HALF];
        private int jobs;
        private int laidPairs;
        private int version;

        static boolean allows(int what, int v) {
            return what >= LENGTH && what <= MOMENT && v >= LOWEST[what] && v <= HIGHEST[what];
        }

        static int jobOfCrossing(int crossing, int i) {
            return crossing >> 4 * i & 15;
        }

        boolean has(int job) {
            return job >= 0 && job < jobs;
        }

        boolean isFull() {
            return jobs >= MOST_JOBS;
        }

        int jobs() {
            return jobs;
        }

        int laidPairs() {
            return laidPairs;
        }

        int version() {
            return version;
        }

        int everyJob() {
            return (1 << jobs) - 1;
        }

        int measure(int job, int what) {
            return measures[what][job];
        }

        int aheadOf(int job) {
            return ahead[job];
        }

        int behind(int job) {
            return behind[job];
        }

        boolean isLaid(int a, int b) {
            return hasBit(laid[a], b);
        }

        boolean isAhead(int a, int b) {
            return hasBit(behind[a], b);
        }

        int add(int length, int weight) {
            int job = jobs;
            measures[LENGTH][job] = length;
            measures[WEIGHT][job] = weight;
            measures[MOMENT][job] = 0;
            jobs++;
            renew();
            return job;
        }

        /** Whatever was laid of the last job came later than it, and so has been taken back before. */
        void removeLast() {
            if (jobs > 0) {
                jobs--;
            }
            renew();
        }

        void measureAnew(int job, int what, int v) {
            measures[what][job] = v;
            // Nothing that is kept goes by the moments.
            if (what != MOMENT) {
                renew();
            }
        }

        void bind(int a, int b) {
            laid[a] |= 1 << b;
            laidPairs++;
            renew();
        }

        void unbind(int a, int b) {
            laid[a] &= ~(1 << b);
            laidPairs--;
            renew();
        }

        int kindOf(int job) {
            if (measures[MOMENT][job] > 0) {
                return LATE;
            }
            if (measures[LENGTH][job] == 1) {
                return ahead[job] == 0 ? FIRST : UNIT;
            }
            return measures[WEIGHT][job] == 0 ? IDLE : PLAIN;
        }

        int lengthOf(int set) {
            return lengths[set & HALF - 1] + lengths[HALF + (set >> HALF_JOBS)];
        }

        int weightOf(int set) {
            return weights[set & HALF - 1] + weights[HALF + (set >> HALF_JOBS)];
        }

        /** Whether a set has all that must come ahead of its jobs, those of another set aside. */
        boolean isBeginning(int set, int aside) {
            int needed = needs[set & HALF - 1] | needs[HALF + (set >> HALF_JOBS)];
            return (needed & ~set & ~aside) == 0;
        }

        boolean mayComeNext(int set, int job) {
            return (set >> job & 1) == 0 && (ahead[job] & ~set) == 0;
        }

        /** What a job adds to the cost, the moments taken for 0, if it comes next behind a length. */
        int costNext(int begun, int job) {
            return measures[WEIGHT][job] * (begun + measures[LENGTH][job]);
        }

        int beginnings() {
            int found = 0;
            int all = everyJob();
            for (int set = 0; set <= all; set++) {
                if (isBeginning(set, 0)) {
                    found++;
                }
            }
            return found;
        }

        /** The first four jobs that show that the yard is not series, four bits each, or NONE. */
        int findCrossing() {
            for (int a = 0; a < jobs; a++) {
                for (int b = 0; b < jobs; b++) {
                    int ends = hasBit(unbound(a), b) ? findEnds(a, b) : NONE;
                    if (ends != NONE) {
                        return a | b << 4 | ends << 8;
                    }
                }
            }
            return NONE;
        }

        private int findEnds(int a, int b) {
            for (int c = 0; c < jobs; c++) {
                int last = behind[b] & unbound(a) & unbound(c);
                if (hasBit(behind[a] & behind[b], c) && last != 0) {
                    return c | Integer.numberOfTrailingZeros(last) << 4;
                }
            }
            return NONE;
        }

        private int unbound(int job) {
            return everyJob() & ~(ahead[job] | behind[job] | 1 << job);
        }

        private void renew() {
            version++;
            followLaid();
            turnBehind();
            sumHalf(0, 0);
            sumHalf(HALF, HALF_JOBS);
        }

        private void followLaid() {
            for (int job = 0; job < jobs; job++) {
                behind[job] = laid[job];
            }
            for (int middle = 0; middle < jobs; middle++) {
                for (int job = 0; job < jobs; job++) {
                    if (hasBit(behind[job], middle)) {
                        behind[job] |= behind[middle];
                    }
                }
            }
        }

        private void turnBehind() {
            for (int job = 0; job < jobs; job++) {
                int found = 0;
                for (int other = 0; other < jobs; other++) {
                    if (hasBit(behind[other], job)) {
                        found |= 1 << other;
                    }
                }
                ahead[job] = found;
            }
        }

        private void sumHalf(int from, int firstJob) {
            int jobsThere = Math.min(Math.max(jobs - firstJob, 0), HALF_JOBS);
            for (int part = 1; part < 1 << jobsThere; part++) {
                int fewer = from + (part & part - 1);
                int job = firstJob + Integer.numberOfTrailingZeros(part);
                lengths[from + part] = lengths[fewer] + measures[LENGTH][job];
                weights[from + part] = weights[fewer] + measures[WEIGHT][job];
                needs[from + part] = needs[fewer] | ahead[job];
            }
        }
    }

    /** What is worked out of a yard, anew only when it is asked for and the yard has changed since. */
    private static final class Plan {
        private static final int NEVER = 1000000000;
        private static final int NO_VERSION = -1;

        private final int[] blockBits = new int[MOST_JOBS];
        private int blocks;
        private int blocksVersion = NO_VERSION;

        // By set: the least cost of all that comes behind it, and how many orders of that have it.
        private final int[] costBehind = new int[1 << MOST_JOBS];
        private final int[] ordersBehind = new int[1 << MOST_JOBS];
        private final int[] bestRow = new int[MOST_JOBS];
        private int ordersVersion = NO_VERSION;

        private final int[] sometimesBehind = new int[MOST_JOBS];
        private int standingVersion = NO_VERSION;

        int blocks(Yard yard) {
            if (blocksVersion != yard.version()) {
                findBlocks(yard);
                blocksVersion = yard.version();
            }
            return blocks;
        }

        int blockBits(int i) {
            return blockBits[i];
        }

        int blockOf(Yard yard, int job) {
            int all = blocks(yard);
            for (int i = 0; i < all; i++) {
                if (hasBit(blockBits[i], job)) {
                    return i;
                }
            }
            return NONE;
        }

        int leastCost(Yard yard) {
            findOrders(yard);
            return costBehind[0];
        }

        int bestOrders(Yard yard) {
            findOrders(yard);
            return ordersBehind[0];
        }

        int bestAt(Yard yard, int i) {
            findOrders(yard);
            return bestRow[i];
        }

        boolean mayStandAhead(Yard yard, int a, int b) {
            findOrders(yard);
            if (standingVersion != yard.version()) {
                findStanding(yard);
                standingVersion = yard.version();
            }
            return hasBit(sometimesBehind[a], b);
        }

        private void findBlocks(Yard yard) {
            int taken = 0;
            blocks = 0;
            for (int i = 0; i < MOST_JOBS && taken != yard.everyJob(); i++) {
                blockBits[i] = findBlock(yard, taken);
                taken |= blockBits[i];
                blocks++;
            }
        }

        /** Of all of the greatest ratio the greatest has all the others in it: it is the longest one. */
        private static int findBlock(Yard yard, int taken) {
            int rest = yard.everyJob() & ~taken;
            int found = rest;
            int length = yard.lengthOf(rest);
            int weight = yard.weightOf(rest);
            for (int set = rest; set > 0; set = set - 1 & rest) {
                if (yard.isBeginning(set, taken)) {
                    int setLength = yard.lengthOf(set);
                    int setWeight = yard.weightOf(set);
                    int above = setWeight * length - weight * setLength;
                    if (above > 0 || above == 0 && setLength > length) {
                        found = set;
                        length = setLength;
                        weight = setWeight;
                    }
                }
            }
            return found;
        }

        private void findOrders(Yard yard) {
            if (ordersVersion == yard.version()) {
                return;
            }
            ordersVersion = yard.version();
            int all = yard.everyJob();
            costBehind[all] = 0;
            ordersBehind[all] = 1;
            for (int set = all - 1; set >= 0; set--) {
                if (yard.isBeginning(set, 0)) {
                    goOnFrom(yard, set);
                } else {
                    costBehind[set] = NEVER;
                }
            }
            readBestRow(yard);
        }

        private void goOnFrom(Yard yard, int set) {
            int jobs = yard.jobs();
            int begun = yard.lengthOf(set);
            int least = NEVER;
            int orders = 0;
            for (int job = 0; job < jobs; job++) {
                if (yard.mayComeNext(set, job)) {
                    int with = set | 1 << job;
                    int cost = yard.costNext(begun, job) + costBehind[with];
                    if (cost < least) {
                        least = cost;
                        orders = ordersBehind[with];
                    } else if (cost == least) {
                        orders += ordersBehind[with];
                    }
                }
            }
            costBehind[set] = least;
            ordersBehind[set] = orders;
        }

        private boolean isBestNext(Yard yard, int set, int job) {
            return yard.mayComeNext(set, job)
                    && yard.costNext(yard.lengthOf(set), job) + costBehind[set | 1 << job] == costBehind[set];
        }

        private void readBestRow(Yard yard) {
            int set = 0;
            for (int i = 0; i < yard.jobs(); i++) {
                int job = leastBestNext(yard, set);
                bestRow[i] = job;
                set |= 1 << job;
            }
        }

        private int leastBestNext(Yard yard, int set) {
            for (int job = 0; job < yard.jobs() - 1; job++) {
                if (isBestNext(yard, set, job)) {
                    return job;
                }
            }
            return yard.jobs() - 1;
        }

        /**
         * Goes up through the sets that best orders begin with. The other sets lose their cost on the way,
         * which marks them without one more row: by now nothing asks for their costs any more.
         */
        private void findStanding(Yard yard) {
            for (int job = 0; job < yard.jobs(); job++) {
                sometimesBehind[job] = 0;
            }
            int all = yard.everyJob();
            for (int set = 1; set <= all; set++) {
                if (costBehind[set] != NEVER) {
                    if (beginsBestOrder(yard, set)) {
                        noteStanding(yard, set);
                    } else {
                        costBehind[set] = NEVER;
                    }
                }
            }
        }

        private boolean beginsBestOrder(Yard yard, int set) {
            for (int job = 0; job < yard.jobs(); job++) {
                int without = set & ~(1 << job);
                if (without != set && costBehind[without] != NEVER && isBestNext(yard, without, job)) {
                    return true;
                }
            }
            return false;
        }

        private void noteStanding(Yard yard, int set) {
            int jobs = yard.jobs();
            int rest = yard.everyJob() & ~set;
            for (int job = 0; job < jobs; job++) {
                if ((set >> job & 1) == 1) {
                    sometimesBehind[job] |= rest;
                }
            }
        }
    }

    /** The order: a row of jobs, each there once at most. */
    private static final class Line {
        private final int[] row = new int[MOST_JOBS];
        private int size;

        int size() {
            return size;
        }

        int jobAt(int place) {
            return row[place];
        }

        void empty() {
            size = 0;
        }

        void append(int job) {
            if (size < MOST_JOBS) {
                row[size] = job;
                size++;
            }
        }

        void exchange(int place) {
            int job = row[place];
            row[place] = row[place + 1];
            row[place + 1] = job;
        }

        int placeOf(int job) {
            for (int place = 0; place < size; place++) {
                if (row[place] == job) {
                    return place;
                }
            }
            return NONE;
        }

        int bitsBefore(int place) {
            int bits = 0;
            for (int i = 0; i < place; i++) {
                bits |= 1 << row[i];
            }
            return bits;
        }

        int lackingAt(Yard yard, int place) {
            return yard.aheadOf(row[place]) & ~bitsBefore(place);
        }

        int firstLacking(Yard yard) {
            for (int place = 0; place < size; place++) {
                if (lackingAt(yard, place) != 0) {
                    return place;
                }
            }
            return NONE;
        }

        boolean isKept(Yard yard) {
            return size == yard.jobs() && firstLacking(yard) == NONE;
        }

        int weightedWaiting(Yard yard) {
            int end = 0;
            int sum = 0;
            for (int place = 0; place < size; place++) {
                int job = row[place];
                end = Math.max(end, yard.measure(job, MOMENT)) + yard.measure(job, LENGTH);
                sum += yard.measure(job, WEIGHT) * end;
            }
            return sum;
        }
    }

    /** The latest changes of the yard, the oldest one giving way to a new one when there is no room. */
    private static final class History {
        static final int CAME = 0;
        static final int MEASURED = 1;
        static final int BOUND = 2;
        static final int UNBOUND = 3;

        private final int[] change = new int[MOST_CHANGES];
        private final int[] first = new int[MOST_CHANGES];
        private final int[] second = new int[MOST_CHANGES];
        private final int[] former = new int[MOST_CHANGES];
        private int next;
        private int size;

        int size() {
            return size;
        }

        void keep(int what, int a, int b, int old) {
            change[next] = what;
            first[next] = a;
            second[next] = b;
            former[next] = old;
            next = next == MOST_CHANGES - 1 ? 0 : next + 1;
            size = Math.min(size + 1, MOST_CHANGES);
        }

        void takeBack(Yard yard) {
            next = next == 0 ? MOST_CHANGES - 1 : next - 1;
            size--;
            switch (change[next]) {
                case CAME:
                    yard.removeLast();
                    break;
                case MEASURED:
                    yard.measureAnew(first[next], second[next], former[next]);
                    break;
                case BOUND:
                    yard.unbind(first[next], second[next]);
                    break;
                default:
                    yard.bind(first[next], second[next]);
                    break;
            }
        }
    }

    /** A row of numbers; all that a call can write fits an int, whatever the sort. */
    private static final class Sheet {
        private final int[] numbers = new int[MOST_NUMBERS];
        private int sort = MISSING;
        private int size;

        boolean isMissing() {
            return sort == MISSING;
        }

        boolean isOfSort(int asked) {
            return sort == asked;
        }

        int size() {
            return size;
        }

        int numberAt(int i) {
            return numbers[i];
        }

        void make(int newSort, int n) {
            sort = newSort;
            size = n;
            for (int i = 0; i < MOST_NUMBERS; i++) {
                numbers[i] = 0;
            }
        }

        void remove() {
            sort = MISSING;
            size = 0;
        }

        void write(int i, int v) {
            numbers[i] = sort == SHORTS ? (short) v : v;
        }

        int refusalAs(int asked) {
            if (isMissing()) {
                return NOTHING_THERE;
            }
            return isOfSort(asked) ? DONE : OTHER_SORT;
        }

        int sumFrom(int from, int n) {
            int sum = 0;
            for (int i = from; i < from + n; i++) {
                sum += numbers[i];
            }
            return sum;
        }
    }

    /** The job that acts, as its kind's bodies see it, and the trace of these. */
    private static final class Acting {
        private final int[] bodies = new int[MOST_BODIES];
        private int begun;
        private int length;
        private int weight;
        private int moment;
        private int ahead;

        void take(Yard yard, int job) {
            begun = 0;
            length = yard.measure(job, LENGTH);
            weight = yard.measure(job, WEIGHT);
            moment = yard.measure(job, MOMENT);
            ahead = Integer.bitCount(yard.aheadOf(job));
        }

        void begin(int body) {
            if (begun < MOST_BODIES) {
                bodies[begun] = body;
                begun++;
            }
        }

        int begun() {
            return begun;
        }

        int bodyAt(int i) {
            return i >= 0 && i < begun ? bodies[i] : NONE;
        }
    }

    private static class JobKind {
        int last(Acting job, int x) {
            job.begin(10);
            return x + job.length;
        }

        int weigh(Acting job, int x) {
            job.begin(11);
            return last(job, x) * job.weight;
        }

        int follow(Acting job, int x) {
            job.begin(12);
            return x + job.ahead;
        }

        int tell(Acting job, int x) {
            job.begin(13);
            return weigh(job, x) - follow(job, x);
        }
    }

    private static class UnitKind extends JobKind {
        int last(Acting job, int x) {
            job.begin(20);
            return super.last(job, x) * 2;
        }

        int tell(Acting job, int x) {
            job.begin(21);
            return super.tell(job, x + 1) ^ 3;
        }
    }

    private static final class IdleKind extends JobKind {
        int weigh(Acting job, int x) {
            job.begin(30);
            return super.weigh(job, x) + job.length;
        }
    }

    private static final class FirstKind extends UnitKind {
        int follow(Acting job, int x) {
            job.begin(40);
            return super.follow(job, x) - 7;
        }

        int last(Acting job, int x) {
            job.begin(41);
            return super.last(job, x) + super.follow(job, x);
        }
    }

    private static final class LateKind extends JobKind {
        int last(Acting job, int x) {
            job.begin(50);
            return super.last(job, x + job.moment);
        }

        int tell(Acting job, int x) {
            job.begin(51);
            return follow(job, x) * super.tell(job, x);
        }
    }
}
