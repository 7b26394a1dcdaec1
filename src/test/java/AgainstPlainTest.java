import java.util.ArrayList;
import java.util.HashMap;
import java.util.List;
import java.util.Map;
import java.util.Random;

/** Long runs of calls, right and wrong ones, beside a slow model that takes the document by its words. */
public final class AgainstPlainTest {
    private static final int RUNS = 3000;
    // Each call is followed by status(), some by a question, and the run by all questions: 512 at most.
    private static final int CALLS = 50;
    private static final int[] STRANGE = {Integer.MIN_VALUE, -100000, -101, -2, -1, 12, 21, 101, 501, Integer.MAX_VALUE};

    private static int wrong = 0;

    public static void main(String[] args) {
        for (int run = 0; run < RUNS && wrong < 20; run++) {
            oneRun(run);
        }
        for (int run = 0; run < 12 && wrong < 20; run++) {
            fullYard(run);
        }
        System.out.println(wrong == 0 ? "all runs are as the model's" : wrong + " answers are not the model's");
        if (wrong != 0) {
            System.exit(1);
        }
    }

    private static void due(int run, String call, int got, int want) {
        if (got != want) {
            wrong++;
            System.out.println("run " + run + ": " + call + " answered " + got + ", due is " + want);
        }
    }

    private static void oneRun(int run) {
        Random random = new Random(7919L * run + 1);
        FellersOrder x = new FellersOrder();
        Plain plain = new Plain();
        int mostJobs = 1 + run % 7;
        int reach = run % 3 == 0 ? 4 : 100;
        for (int i = 0; i < CALLS && wrong < 20; i++) {
            oneCall(run, random, x, plain, mostJobs, reach);
            due(run, "status()", x.status(), plain.status);
            if (i % 8 == 7) {
                oneQuestion(run, random, x, plain);
            }
        }
        allQuestions(run, x, plain);
    }

    /** Asked between changes, so that what is kept from an earlier question would show. */
    private static void oneQuestion(int run, Random random, FellersOrder x, Plain plain) {
        int job = random.nextInt(1 + plain.jobs.size());
        int other = random.nextInt(1 + plain.jobs.size());
        switch (random.nextInt(6)) {
            case 0:
                due(run, "least() midway", x.least(), plain.cost(plain.bestOrders().get(0), false));
                break;
            case 1:
                due(run, "many() midway", x.many(), plain.bestOrders().size());
                break;
            case 2:
                due(run, "fixed(" + job + ", " + other + ") midway", x.fixed(job, other), plain.fixed(plain.bestOrders(), job, other));
                break;
            case 3:
                due(run, "block(" + job + ", 0) midway", x.block(job, 0), plain.block(job, 0));
                break;
            case 4:
                due(run, "swap(" + job + ") midway", x.swap(job), plain.swap(job));
                break;
            default:
                due(run, "count(4) midway", x.count(4), plain.count(4));
                break;
        }
    }

    private static int pick(Random random, int from, int to) {
        return random.nextInt(25) == 0 ? STRANGE[random.nextInt(STRANGE.length)] : from + random.nextInt(to - from + 1);
    }

    private static void oneCall(int run, Random random, FellersOrder x, Plain plain, int mostJobs, int reach) {
        int job = pick(random, 0, mostJobs);
        int other = pick(random, 0, mostJobs);
        int small = pick(random, -1, 4);
        int sheet = pick(random, 0, 5);
        switch (random.nextInt(15)) {
            case 0:
            case 1:
                if (plain.jobs.size() < mostJobs) {
                    int length = random.nextInt(3) == 0 ? 1 : pick(random, 1, reach);
                    int weight = pick(random, 0, reach);
                    due(run, "job(" + length + ", " + weight + ")", x.job(length, weight), plain.job(length, weight));
                }
                break;
            case 2: {
                int v = random.nextInt(3) == 0 ? random.nextInt(2) : pick(random, 0, small == 2 ? 20 : reach);
                due(run, "set(" + job + ", " + small + ", " + v + ")", x.set(job, small, v), plain.set(job, small, v));
                break;
            }
            case 3:
            case 4:
                due(run, "lay(" + job + ", " + other + ")", x.lay(job, other), plain.lay(job, other));
                break;
            case 5:
                due(run, "free(" + job + ", " + other + ")", x.free(job, other), plain.free(job, other));
                break;
            case 6:
            case 7:
                due(run, "put(" + job + ")", x.put(job), plain.put(job));
                break;
            case 8:
                if (random.nextInt(4) == 0) {
                    due(run, "clear()", x.clear(), plain.clear());
                }
                break;
            case 9: {
                int act = pick(random, 0, 3);
                int arg = random.nextInt(3) == 0 ? random.nextInt() : pick(random, -5, 20);
                due(run, "act(" + job + ", " + act + ", " + arg + ")", x.act(job, act, arg), plain.act(job, act, arg));
                break;
            }
            case 10: {
                int n = pick(random, 0, 20);
                due(run, "sheet(" + sheet + ", " + small + ", " + n + ")", x.sheet(sheet, small, n), plain.sheet(sheet, small, n));
                break;
            }
            case 11: {
                int i = pick(random, 0, 5);
                int v = random.nextInt(4) == 0 ? random.nextInt() : pick(random, -1, reach) + (random.nextInt(4) << 16);
                due(run, "cell(" + sheet + ", " + i + ", " + v + ")", x.cell(sheet, i, v), plain.cell(sheet, i, v));
                break;
            }
            case 12:
                if (plain.jobs.size() < mostJobs) {
                    int i = pick(random, 0, 5);
                    due(run, "fromSheet(" + sheet + ", " + small + ", " + i + ")", x.fromSheet(sheet, small, i), plain.fromSheet(sheet, small, i));
                }
                break;
            case 13: {
                int what = pick(random, 0, 6);
                int n = random.nextInt(3) == 0 ? pick(random, -100, 100) : pick(random, -3, 8);
                due(run, "forge(" + sheet + ", " + what + ", " + n + ")", x.forge(sheet, what, n), plain.forge(sheet, what, n));
                break;
            }
            default:
                due(run, "undo()", x.undo(), plain.undo());
                break;
        }
    }

    private static void allQuestions(int run, FellersOrder x, Plain plain) {
        int n = plain.jobs.size();
        List<List<Integer>> orders = plain.bestOrders();
        due(run, "least()", x.least(), plain.cost(orders.get(0), false));
        due(run, "many()", x.many(), orders.size());
        due(run, "turned()", x.turned(), plain.turned());
        due(run, "keeps()", x.keeps(), plain.keeps(plain.order) ? 1 : 0);
        due(run, "cost()", x.cost(), plain.cost(plain.order, true));
        for (int i = -1; i <= n; i++) {
            due(run, "best(" + i + ")", x.best(i), i < 0 || i >= n ? -1 : orders.get(0).get(i));
            due(run, "swap(" + i + ")", x.swap(i), plain.swap(i));
            for (int what = -1; what <= 8; what++) {
                due(run, "told(" + i + ", " + what + ")", x.told(i, what), plain.told(i, what));
                due(run, "block(" + i + ", " + what + ")", x.block(i, what), plain.block(i, what));
            }
            for (int j = -1; j <= n; j++) {
                due(run, "ahead(" + i + ", " + j + ")", x.ahead(i, j), plain.aheadTold(i, j));
                due(run, "fixed(" + i + ", " + j + ")", x.fixed(i, j), plain.fixed(orders, i, j));
            }
        }
        for (int what = -1; what <= 7; what++) {
            due(run, "count(" + what + ")", x.count(what), plain.count(what));
        }
        for (int what = -1; what <= 2; what++) {
            due(run, "why(" + what + ")", x.why(what), plain.why(what));
        }
        int[] crossing = plain.crossing();
        due(run, "series()", x.series(), crossing == null ? 1 : 0);
        for (int i = -1; i <= 4; i++) {
            due(run, "shows(" + i + ")", x.shows(i), crossing == null || i < 0 || i > 3 ? -1 : crossing[i]);
        }
        for (int i = -1; i <= plain.trace.size(); i++) {
            due(run, "trace(" + i + ")", x.trace(i), i < 0 || i >= plain.trace.size() ? -1 : plain.trace.get(i));
        }
        due(run, "least() again", x.least(), plain.cost(orders.get(0), false));
    }

    /** Twelve jobs are too many to go through all orders: the model goes by the last job of each set. */
    private static void fullYard(int run) {
        Random random = new Random(run);
        FellersOrder x = new FellersOrder();
        Plain plain = new Plain();
        for (int job = 0; job < 12; job++) {
            int length = 1 + random.nextInt(run % 2 == 0 ? 3 : 100);
            int weight = random.nextInt(run % 2 == 0 ? 4 : 101);
            x.job(length, weight);
            plain.job(length, weight);
        }
        for (int i = 0; i < 2 * run; i++) {
            int a = random.nextInt(12);
            int b = random.nextInt(12);
            due(run, "lay(" + a + ", " + b + ")", x.lay(a, b), plain.lay(a, b));
        }
        long[] least = plain.leastOfSet(4095, new HashMap<>());
        due(run, "least() of twelve", x.least(), (int) least[0]);
        due(run, "many() of twelve", x.many(), (int) least[1]);
        int[] crossing = plain.crossing();
        due(run, "series() of twelve", x.series(), crossing == null ? 1 : 0);
        for (int i = 0; i < 4; i++) {
            due(run, "shows(" + i + ") of twelve", x.shows(i), crossing == null ? -1 : crossing[i]);
        }
        for (int i = 0; i < 12; i++) {
            due(run, "block(" + i + ", 0) of twelve", x.block(i, 0), plain.block(i, 0));
        }
        due(run, "count(4) of twelve", x.count(4), plain.count(4));
        List<Integer> best = new ArrayList<>();
        for (int i = 0; i < 12; i++) {
            best.add(x.best(i));
        }
        due(run, "best keeps", plain.keeps(best) ? 1 : 0, 1);
        due(run, "best costs", plain.cost(best, false), (int) least[0]);
        fixedPairs(run, x, plain, best, least[0]);
    }

    /** a is fixed ahead of b if b laid ahead of a makes it dearer, or cannot be laid. */
    private static void fixedPairs(int run, FellersOrder x, Plain plain, List<Integer> best, long least) {
        for (int a = 0; a < 12; a += 1 + run % 3) {
            for (int b = 0; b < 12; b++) {
                if (a != b) {
                    boolean aheadHere = best.indexOf(a) < best.indexOf(b);
                    int want = aheadHere && !mayTurn(plain, a, b, least) ? 1 : 0;
                    due(run, "fixed(" + a + ", " + b + ") of twelve", x.fixed(a, b), want);
                }
            }
        }
    }

    private static boolean mayTurn(Plain plain, int a, int b, long least) {
        if (plain.lay(b, a) != 1) {
            return plain.laid.get(b).contains(a);
        }
        boolean asCheap = plain.leastOfSet(4095, new HashMap<>())[0] == least;
        plain.undo();
        return asCheap;
    }

    /** The document by its words, without a thought for speed. */
    private static final class Plain {
        List<int[]> jobs = new ArrayList<>();
        List<List<Integer>> laid = new ArrayList<>();
        List<Integer> order = new ArrayList<>();
        List<Integer> trace = new ArrayList<>();
        final long[][] sheets = new long[6][];
        final int[] sorts = new int[6];
        final List<List<int[]>> oldJobs = new ArrayList<>();
        final List<List<List<Integer>>> oldLaid = new ArrayList<>();
        int status = 0;

        int done(int answer) {
            status = 0;
            return answer;
        }

        int refused(int why) {
            status = why;
            return -1;
        }

        boolean has(int job) {
            return 0 <= job && job < jobs.size();
        }

        void remember() {
            List<int[]> j = new ArrayList<>();
            List<List<Integer>> l = new ArrayList<>();
            for (int i = 0; i < jobs.size(); i++) {
                j.add(jobs.get(i).clone());
                l.add(new ArrayList<>(laid.get(i)));
            }
            oldJobs.add(j);
            oldLaid.add(l);
            if (oldJobs.size() > 12) {
                oldJobs.remove(0);
                oldLaid.remove(0);
            }
        }

        int job(int length, int weight) {
            if (length < 1 || length > 100 || weight < 0 || weight > 100) {
                return refused(1);
            }
            if (jobs.size() == 12) {
                return refused(2);
            }
            remember();
            jobs.add(new int[] {length, weight, 0});
            laid.add(new ArrayList<>());
            return done(jobs.size() - 1);
        }

        int set(int job, int what, int v) {
            boolean fits = what == 0 && v >= 1 && v <= 100 || what == 1 && v >= 0 && v <= 100
                    || what == 2 && v >= 0 && v <= 500;
            if (!has(job) || !fits) {
                return refused(1);
            }
            remember();
            int former = jobs.get(job)[what];
            jobs.get(job)[what] = v;
            return done(former);
        }

        /** By walking from a along what is laid. */
        boolean ahead(int a, int b) {
            for (int next : laid.get(a)) {
                if (next == b || ahead(next, b)) {
                    return true;
                }
            }
            return false;
        }

        boolean apart(int a, int b) {
            return !ahead(a, b) && !ahead(b, a);
        }

        int lay(int a, int b) {
            if (!has(a) || !has(b)) {
                return refused(1);
            }
            if (a == b || laid.get(a).contains(b) || ahead(b, a)) {
                return refused(3);
            }
            remember();
            laid.get(a).add(b);
            return done(1);
        }

        int free(int a, int b) {
            if (!has(a) || !has(b)) {
                return refused(1);
            }
            if (!laid.get(a).contains(b)) {
                return refused(3);
            }
            remember();
            laid.get(a).remove(Integer.valueOf(b));
            return done(1);
        }

        int put(int job) {
            if (!has(job)) {
                return refused(1);
            }
            if (order.contains(job)) {
                return refused(3);
            }
            order.add(job);
            return done(order.size());
        }

        int clear() {
            int had = order.size();
            order.clear();
            return done(had);
        }

        int undo() {
            if (oldJobs.isEmpty()) {
                return refused(3);
            }
            jobs = oldJobs.remove(oldJobs.size() - 1);
            laid = oldLaid.remove(oldLaid.size() - 1);
            order.clear();
            return done(1);
        }

        int howManyAhead(int job) {
            int n = 0;
            for (int a = 0; a < jobs.size(); a++) {
                n += ahead(a, job) ? 1 : 0;
            }
            return n;
        }

        int kind(int job) {
            int[] j = jobs.get(job);
            if (j[2] > 0) {
                return 4;
            }
            if (j[0] == 1 && howManyAhead(job) == 0) {
                return 3;
            }
            return j[0] == 1 ? 1 : j[1] == 0 ? 2 : 0;
        }

        int told(int job, int what) {
            if (!has(job)) {
                return -1;
            }
            if (what >= 0 && what <= 2) {
                return jobs.get(job)[what];
            }
            if (what == 5) {
                int n = 0;
                for (int b = 0; b < jobs.size(); b++) {
                    n += ahead(job, b) ? 1 : 0;
                }
                return n;
            }
            if (what == 7) {
                for (int i = 0; ; i++) {
                    if ((block(i, 0) >> job & 1) != 0) {
                        return i;
                    }
                }
            }
            return what == 3 ? kind(job) : what == 4 ? howManyAhead(job) : what == 6 ? order.indexOf(job) : -1;
        }

        int aheadTold(int a, int b) {
            if (!has(a) || !has(b)) {
                return -1;
            }
            return laid.get(a).contains(b) ? 2 : ahead(a, b) ? 1 : 0;
        }

        boolean beginning(int set, int taken) {
            for (int b = 0; b < jobs.size(); b++) {
                for (int a = 0; a < jobs.size(); a++) {
                    if ((set >> b & 1) != 0 && ((set | taken) >> a & 1) == 0 && ahead(a, b)) {
                        return false;
                    }
                }
            }
            return true;
        }

        int sum(int set, int what) {
            int sum = 0;
            for (int job = 0; job < jobs.size(); job++) {
                sum += (set >> job & 1) != 0 ? jobs.get(job)[what] : 0;
            }
            return sum;
        }

        /** The union of all beginnings of what is left that have the greatest ratio. */
        List<Integer> blocks() {
            List<Integer> found = new ArrayList<>();
            int all = (1 << jobs.size()) - 1;
            int taken = 0;
            while (taken != all) {
                int union = 0;
                int length = 0;
                int weight = 0;
                for (int set = 1; set <= all; set++) {
                    if ((set & taken) == 0 && beginning(set, taken)) {
                        int l = sum(set, 0);
                        int w = sum(set, 1);
                        if (union == 0 || w * length > weight * l) {
                            union = set;
                            length = l;
                            weight = w;
                        } else if (w * length == weight * l) {
                            union |= set;
                        }
                    }
                }
                found.add(union);
                taken |= union;
            }
            return found;
        }

        private String blocksOf = "";
        private List<Integer> blocksThere = new ArrayList<>();

        int block(int i, int what) {
            StringBuilder key = new StringBuilder(laid.toString());
            for (int[] j : jobs) {
                key.append(j[0]).append('/').append(j[1]).append(' ');
            }
            if (!key.toString().equals(blocksOf)) {
                blocksOf = key.toString();
                blocksThere = blocks();
            }
            if (i < 0 || i >= blocksThere.size() || what < 0 || what > 2) {
                return -1;
            }
            int bits = blocksThere.get(i);
            return what == 0 ? bits : what == 1 ? sum(bits, 1) : sum(bits, 0);
        }

        int count(int what) {
            switch (what) {
                case 0:
                    return jobs.size();
                case 1:
                    return laid.stream().mapToInt(List::size).sum();
                case 2:
                    return order.size();
                case 3:
                    return blocks().size();
                case 4: {
                    int n = 0;
                    for (int set = 0; set < 1 << jobs.size(); set++) {
                        n += beginning(set, 0) ? 1 : 0;
                    }
                    return n;
                }
                case 5:
                    return trace.size();
                case 6:
                    return oldJobs.size();
                default:
                    return -1;
            }
        }

        List<Integer> lacking(List<Integer> row, int place) {
            List<Integer> found = new ArrayList<>();
            for (int a = 0; a < jobs.size(); a++) {
                if (ahead(a, row.get(place)) && !row.subList(0, place).contains(a)) {
                    found.add(a);
                }
            }
            return found;
        }

        boolean keeps(List<Integer> row) {
            for (int place = 0; place < row.size(); place++) {
                if (!lacking(row, place).isEmpty()) {
                    return false;
                }
            }
            return row.size() == jobs.size();
        }

        int why(int what) {
            if (what < 0 || what > 1 || keeps(order)) {
                return -1;
            }
            for (int place = 0; place < order.size(); place++) {
                List<Integer> lacking = lacking(order, place);
                if (!lacking.isEmpty()) {
                    return what == 0 ? order.get(place) : lacking.get(0);
                }
            }
            int least = 0;
            while (order.contains(least)) {
                least++;
            }
            return what == 0 ? -2 : least;
        }

        int cost(List<Integer> row, boolean moments) {
            int now = 0;
            int sum = 0;
            for (int job : row) {
                int[] j = jobs.get(job);
                if (moments && now < j[2]) {
                    now = j[2];
                }
                now += j[0];
                sum += j[1] * now;
            }
            return sum;
        }

        int swap(int i) {
            if (i < 0 || i + 1 >= order.size()) {
                return -1000000000;
            }
            List<Integer> other = new ArrayList<>(order);
            other.set(i, order.get(i + 1));
            other.set(i + 1, order.get(i));
            return cost(other, true) - cost(order, true);
        }

        /** All orders that keep, in the order of their rows, the dearer ones left out. */
        List<List<Integer>> bestOrders() {
            List<List<Integer>> all = new ArrayList<>();
            boolean[][] must = new boolean[jobs.size()][jobs.size()];
            for (int a = 0; a < jobs.size(); a++) {
                for (int b = 0; b < jobs.size(); b++) {
                    must[a][b] = ahead(a, b);
                }
            }
            go(must, new ArrayList<>(), all);
            int least = Integer.MAX_VALUE;
            for (List<Integer> row : all) {
                least = Math.min(least, cost(row, false));
            }
            int cheapest = least;
            all.removeIf(row -> cost(row, false) != cheapest);
            return all;
        }

        private void go(boolean[][] must, List<Integer> row, List<List<Integer>> all) {
            if (row.size() == jobs.size()) {
                all.add(new ArrayList<>(row));
                return;
            }
            for (int job = 0; job < jobs.size(); job++) {
                boolean may = !row.contains(job);
                for (int a = 0; a < jobs.size() && may; a++) {
                    may = !must[a][job] || row.contains(a);
                }
                if (may) {
                    row.add(job);
                    go(must, row, all);
                    row.remove(row.size() - 1);
                }
            }
        }

        int fixed(List<List<Integer>> orders, int a, int b) {
            if (!has(a) || !has(b) || a == b) {
                return -1;
            }
            for (List<Integer> row : orders) {
                if (row.indexOf(a) > row.indexOf(b)) {
                    return 0;
                }
            }
            return 1;
        }

        int turned() {
            Plain turned = new Plain();
            for (int[] j : jobs) {
                if (j[1] == 0) {
                    return -1;
                }
                turned.job(j[1], j[0]);
            }
            for (int a = 0; a < jobs.size(); a++) {
                for (int b : laid.get(a)) {
                    turned.lay(b, a);
                }
            }
            return turned.cost(turned.bestOrders().get(0), false);
        }

        int[] crossing() {
            int n = jobs.size();
            for (int a = 0; a < n; a++) {
                for (int b = 0; b < n; b++) {
                    for (int c = 0; c < n; c++) {
                        for (int d = 0; d < n; d++) {
                            if (ahead(a, c) && ahead(b, c) && ahead(b, d) && apart(a, b) && apart(a, d) && apart(c, d)) {
                                return new int[] {a, b, c, d};
                            }
                        }
                    }
                }
            }
            return null;
        }

        /** The least cost of a beginning done first, and how many orders of it have it. */
        long[] leastOfSet(int set, Map<Integer, long[]> known) {
            if (set == 0) {
                return new long[] {0, 1};
            }
            long[] found = known.get(set);
            if (found != null) {
                return found;
            }
            found = new long[] {Long.MAX_VALUE / 2, 0};
            for (int job = 0; job < jobs.size(); job++) {
                boolean last = (set >> job & 1) != 0;
                for (int b = 0; b < jobs.size() && last; b++) {
                    last = (set >> b & 1) == 0 || !ahead(job, b);
                }
                if (last) {
                    long[] before = leastOfSet(set & ~(1 << job), known);
                    long cost = before[0] + jobs.get(job)[1] * sum(set, 0);
                    if (cost < found[0]) {
                        found[0] = cost;
                        found[1] = 0;
                    }
                    found[1] += cost == found[0] ? before[1] : 0;
                }
            }
            known.put(set, found);
            return found;
        }

        int act(int job, int act, int x) {
            if (!has(job) || act < 0 || act > 3) {
                return refused(1);
            }
            trace = new ArrayList<>();
            int answer = body(job, kind(job), act, x);
            while (trace.size() > 50) {
                trace.remove(trace.size() - 1);
            }
            return done(answer);
        }

        /** Goes up from a kind to the first that has a body for the act, and runs that. */
        private int body(int job, int kind, int act, int x) {
            int[] above = {-1, 0, 0, 1, 0};
            int[][] bodies = {{10, 11, 12, 13}, {20, 0, 0, 21}, {0, 30, 0, 0}, {41, 0, 40, 0}, {50, 0, 0, 51}};
            int at = kind;
            while (bodies[at][act] == 0) {
                at = above[at];
            }
            int own = kind(job);
            int up = above[at];
            int[] j = jobs.get(job);
            trace.add(bodies[at][act]);
            switch (bodies[at][act]) {
                case 10:
                    return x + j[0];
                case 11:
                    return body(job, own, 0, x) * j[1];
                case 12:
                    return x + howManyAhead(job);
                case 13: {
                    int weighed = body(job, own, 1, x);
                    return weighed - body(job, own, 2, x);
                }
                case 20:
                    return body(job, up, 0, x) * 2;
                case 21:
                    return body(job, up, 3, x + 1) ^ 3;
                case 30:
                    return body(job, up, 1, x) + j[0];
                case 40:
                    return body(job, up, 2, x) - 7;
                case 41: {
                    int last = body(job, up, 0, x);
                    return last + body(job, up, 2, x);
                }
                case 50:
                    return body(job, up, 0, x + j[2]);
                default: {
                    int follow = body(job, own, 2, x);
                    return follow * body(job, up, 3, x);
                }
            }
        }

        int sheet(int sheet, int sort, int n) {
            if (sheet < 0 || sheet > 5 || sort < -1 || sort > 2 || sort >= 0 && (n < 0 || n > 20)) {
                return refused(1);
            }
            sheets[sheet] = sort < 0 ? null : new long[n];
            sorts[sheet] = sort;
            return done(1);
        }

        int cell(int sheet, int i, int v) {
            if (sheet < 0 || sheet > 5) {
                return refused(1);
            }
            if (sheets[sheet] == null) {
                return refused(10);
            }
            if (i < 0 || i >= sheets[sheet].length) {
                return refused(12);
            }
            sheets[sheet][i] = sorts[sheet] == 0 ? (short) v : v;
            return done(1);
        }

        int fromSheet(int sheet, int sort, int i) {
            if (sheet < 0 || sheet > 5 || sort < 0 || sort > 2) {
                return refused(1);
            }
            if (jobs.size() == 12) {
                return refused(2);
            }
            long[] row = sheets[sheet];
            if (row == null) {
                return refused(10);
            }
            if (sorts[sheet] != sort) {
                return refused(11);
            }
            if (i < 0 || i + 1L >= row.length) {
                return refused(12);
            }
            if (row[i] < 1 || row[i] > 100 || row[i + 1] < 0 || row[i + 1] > 100) {
                return refused(3);
            }
            return job((int) row[i], (int) row[i + 1]);
        }

        /** Here the host itself is asked, and its refusals are read. */
        int forge(int sheet, int what, int n) {
            if (sheet < 0 || sheet > 5 || what < 0 || what > 6 || n < -100 || n > 100) {
                return refused(1);
            }
            try {
                return done(host(hostSheet(sheet), what, n));
            } catch (NullPointerException e) {
                return refused(10);
            } catch (ClassCastException e) {
                return refused(11);
            } catch (ArrayStoreException e) {
                return refused(14);
            } catch (IndexOutOfBoundsException e) {
                return refused(12);
            } catch (NegativeArraySizeException e) {
                return refused(13);
            } catch (ArithmeticException e) {
                return refused(15);
            }
        }

        private Object hostSheet(int sheet) {
            long[] row = sheets[sheet];
            if (row == null || sorts[sheet] == 2) {
                return row;
            }
            short[] shorts = new short[row.length];
            int[] ints = new int[row.length];
            for (int i = 0; i < row.length; i++) {
                shorts[i] = (short) row[i];
                ints[i] = (int) row[i];
            }
            return sorts[sheet] == 0 ? shorts : ints;
        }

        private int host(Object row, int what, int n) {
            switch (what) {
                case 0: {
                    int sort = ((n % 3) + 3) % 3;
                    return sort == 0 ? ((short[]) row).length : sort == 1 ? ((int[]) row).length : ((long[]) row).length;
                }
                case 1:
                    return new int[n].length;
                case 2: {
                    int[] copy = new int[7];
                    System.arraycopy((int[]) row, 1, copy, n, n);
                    int sum = 0;
                    for (int v : copy) {
                        sum += v;
                    }
                    return sum;
                }
                case 3: {
                    Object[] tray = new short[1][];
                    tray[0] = row;
                    return row == null ? 0 : ((short[]) row).length;
                }
                case 4:
                    return 1000 / n;
                case 5:
                    return failure(n % 2 == 0 ? null : new IllegalStateException());
                default: {
                    int job = ((n % 12) + 12) % 12;
                    Object taken = has(job) ? hostJob(kind(job), jobs.get(job)[0]) : null;
                    return ((Unit) taken).length;
                }
            }
        }

        private int failure(RuntimeException e) {
            try {
                throw e;
            } catch (IllegalStateException caught) {
                return 1;
            }
        }

        private Object hostJob(int kind, int length) {
            return kind == 1 ? new Unit(length) : kind == 3 ? new First(length) : new Object();
        }
    }

    private static class Unit {
        final int length;

        Unit(int length) {
            this.length = length;
        }
    }

    private static final class First extends Unit {
        First(int length) {
            super(length);
        }
    }
}
