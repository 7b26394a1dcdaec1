/** The edges that promises 8 to 22 and 24 name, a test for each sentence. */
public final class QuestionsEdgesTest extends Checks {
    public static void main(String[] args) {
        test("8: told: no such JOB", QuestionsEdgesTest::toldOfNoJob);
        test("8: told: no such what", QuestionsEdgesTest::toldOfNoWhat);
        test("8: told 4, 5: how many", QuestionsEdgesTest::toldHowManyAhead);
        test("8: told 6: its place (NONE)", QuestionsEdgesTest::toldPlace);
        test("8: told 7: the BLOCK (from 0)", QuestionsEdgesTest::toldBlock);
        test("9: ahead: no such", QuestionsEdgesTest::aheadOfNoJob);
        test("9: ahead: 2, 1, 0", QuestionsEdgesTest::aheadAnswers);
        test("10: count: another", QuestionsEdgesTest::countOfAnother);
        test("10: count 0: JOBS", QuestionsEdgesTest::countJobs);
        test("10: count 1: pairs LAID", QuestionsEdgesTest::countLaid);
        test("10: count 2: in THE ORDER", QuestionsEdgesTest::countOrder);
        test("10: count 3: BLOCKS", QuestionsEdgesTest::countBlocks);
        test("10: count 4: BEGINNINGS (the empty one and all JOBS, too)", QuestionsEdgesTest::countBeginnings);
        test("10: count 5: THE TRACE's bodies", QuestionsEdgesTest::countTrace);
        test("10: count 6: changes that can be undone", QuestionsEdgesTest::countChanges);
        test("11: keeps", QuestionsEdgesTest::keepsOneLess);
        test("12: why: it KEEPS, or another what", QuestionsEdgesTest::whyWithoutReason);
        test("12: why: if there is no such", QuestionsEdgesTest::whyNothingLacks);
        test("12: why: the first JOB, the least that lacks", QuestionsEdgesTest::whySomethingLacks);
        test("13: cost: of none, of one, of twelve", QuestionsEdgesTest::costs);
        test("14: swap: no such places", QuestionsEdgesTest::swapOfNoPlaces);
        test("14: swap: by how much", QuestionsEdgesTest::swapGrowth);
        test("14: swap: STATUS is not told", QuestionsEdgesTest::swapLeavesStatus);
        test("15: block: no such", QuestionsEdgesTest::blockOfNone);
        test("15: block: bits, WEIGHT, LENGTH", QuestionsEdgesTest::blockGreatest);
        test("16: least: of none, of one, of twelve", QuestionsEdgesTest::leasts);
        test("17: best: none such", QuestionsEdgesTest::bestOfNone);
        test("17: best: the i-th", QuestionsEdgesTest::bestOfTwelve);
        test("18: many (without JOBS 1)", QuestionsEdgesTest::manyOfNone);
        test("18: many: one order, and all of them", QuestionsEdgesTest::manyLeastAndMost);
        test("19: fixed: no such, or a = b", QuestionsEdgesTest::fixedOfNone);
        test("19: fixed: 1, 0", QuestionsEdgesTest::fixedOfTwelve);
        test("20: series: the least and the greatest", QuestionsEdgesTest::seriesOfFewAndAll);
        test("21: shows: it is, or no such i", QuestionsEdgesTest::showsNothing);
        test("21: shows: the least a, then b, then c, then d", QuestionsEdgesTest::showsTheLeast);
        test("22: turned: a WEIGHT is 0", QuestionsEdgesTest::turnedOfNoWeight);
        test("22: turned: turned about", QuestionsEdgesTest::turnedAbout);
        test("24: trace: none such", QuestionsEdgesTest::traceOfNone);
        test("questions leave STATUS", QuestionsEdgesTest::questionsLeaveStatus);
        finish();
    }

    private static void toldOfNoJob() {
        FellersOrder x = alike(3);
        for (int job : NO_JOBS_OF_3) {
            for (int what = 0; what <= 7; what++) {
                due("told(" + job + ", " + what + ")", x.told(job, what), -1);
            }
        }
        due("told(0, 0)", x.told(0, 0), 2);
        due("told(2, 0)", x.told(2, 0), 2);
    }

    private static void toldOfNoWhat() {
        FellersOrder x = alike(3);
        x.put(0);
        for (int what : new int[] {-1, 8, LOW, HIGH}) {
            due("told(0, " + what + ")", x.told(0, what), -1);
        }
        int[] want = {2, 2, 0, 0, 0, 0, 0, 0};
        for (int what = 0; what <= 7; what++) {
            due("told(0, " + what + ")", x.told(0, what), want[what]);
        }
    }

    private static void toldHowManyAhead() {
        FellersOrder x = chain(12);
        for (int job = 0; job < 12; job++) {
            due("told(" + job + ", 4)", x.told(job, 4), job);
            due("told(" + job + ", 5)", x.told(job, 5), 11 - job);
        }
        // Two ways from one to another count once.
        x.lay(0, 11);
        due("told(11, 4)", x.told(11, 4), 11);
        due("told(0, 5)", x.told(0, 5), 11);
    }

    private static void toldPlace() {
        FellersOrder x = fullYard();
        due("told(11, 6) of an empty order", x.told(11, 6), FellersOrder.NONE);
        for (int job = 11; job >= 0; job--) {
            due("told(" + job + ", 6), not in it", x.told(job, 6), -1);
            x.put(job);
            due("told(" + job + ", 6)", x.told(job, 6), 11 - job);
        }
    }

    private static void toldBlock() {
        FellersOrder x = new FellersOrder();
        for (int job = 0; job < 12; job++) {
            x.job(1, 2 * job);
        }
        for (int job = 0; job < 12; job++) {
            due("told(" + job + ", 7)", x.told(job, 7), 11 - job);
        }
        x.lay(0, 11);
        due("told(11, 7), one of no weight ahead", x.told(11, 7), 5);
        due("told(0, 7), one of no weight", x.told(0, 7), 5);
        due("told(10, 7)", x.told(10, 7), 0);
    }

    private static void aheadOfNoJob() {
        FellersOrder x = chain(3);
        for (int job : NO_JOBS_OF_3) {
            due("ahead(" + job + ", 0)", x.ahead(job, 0), -1);
            due("ahead(0, " + job + ")", x.ahead(0, job), -1);
            due("ahead(" + job + ", " + job + ")", x.ahead(job, job), -1);
        }
    }

    private static void aheadAnswers() {
        FellersOrder x = chain(3);
        int[][] want = {{0, 2, 1}, {0, 0, 2}, {0, 0, 0}};
        for (int a = 0; a < 3; a++) {
            for (int b = 0; b < 3; b++) {
                due("ahead(" + a + ", " + b + ")", x.ahead(a, b), want[a][b]);
            }
        }
        x.lay(0, 2);
        due("ahead(0, 2), laid too", x.ahead(0, 2), 2);
        x.free(0, 1);
        due("ahead(0, 1), freed", x.ahead(0, 1), 0);
    }

    private static void countOfAnother() {
        FellersOrder x = crossing();
        for (int what : new int[] {-1, 7, LOW, HIGH}) {
            due("count(" + what + ")", x.count(what), -1);
        }
    }

    private static void countJobs() {
        FellersOrder x = new FellersOrder();
        for (int jobs = 0; jobs <= 12; jobs++) {
            due("count(0)", x.count(0), jobs);
            x.job(1, 1);
        }
        due("count(0), a 13th refused", x.count(0), 12);
    }

    private static void countLaid() {
        FellersOrder x = chain(12);
        due("count(1), what is laid alone", x.count(1), 11);
        x.lay(0, 11);
        due("count(1), so and laid", x.count(1), 12);
        x.lay(0, 11);
        due("count(1), refused", x.count(1), 12);
        x.free(0, 11);
        x.free(0, 1);
        due("count(1), two freed", x.count(1), 10);
        due("count(1) of none", fullYard().count(1), 0);
    }

    private static void countOrder() {
        FellersOrder x = fullYard();
        for (int job = 0; job < 12; job++) {
            due("count(2)", x.count(2), job);
            x.put(job);
        }
        due("count(2)", x.count(2), 12);
        x.put(3);
        due("count(2), refused", x.count(2), 12);
    }

    private static void countBlocks() {
        due("count(3) of no jobs", new FellersOrder().count(3), 0);
        due("count(3) of one", alike(1).count(3), 1);
        due("count(3) of twelve alike", fullYard().count(3), 1);
        FellersOrder x = new FellersOrder();
        for (int job = 0; job < 12; job++) {
            x.job(100, 100 - job);
        }
        due("count(3) of twelve ratios", x.count(3), 12);
        x.set(11, 1, 90);
        due("count(3) of eleven ratios", x.count(3), 11);
        x.lay(11, 0);
        due("count(3), two as one of a ratio that is there", x.count(3), 10);
    }

    private static void countBeginnings() {
        due("count(4) of no jobs", new FellersOrder().count(4), 1);
        due("count(4) of one", alike(1).count(4), 2);
        due("count(4) of two", alike(2).count(4), 4);
        due("count(4) of two in a chain", chain(2).count(4), 3);
        due("count(4) of eleven", alike(11).count(4), 2048);
        due("count(4) of twelve", fullYard().count(4), 4096);
        due("count(4) of twelve in a chain", chain(12).count(4), 13);
        FellersOrder x = fullYard();
        for (int job = 1; job < 12; job++) {
            x.lay(0, job);
        }
        due("count(4), one ahead of all", x.count(4), 2049);
    }

    private static void countTrace() {
        FellersOrder x = yard(1, 1, 5, 5);
        due("count(5) of none", x.count(5), 0);
        x.act(0, 3, 0);
        due("count(5) of the most", x.count(5), 9);
        x.act(1, 2, 0);
        due("count(5) of the fewest", x.count(5), 1);
        x.act(2, 0, 0);
        due("count(5), refused", x.count(5), 1);
    }

    private static void countChanges() {
        FellersOrder x = new FellersOrder();
        due("count(6) of none", x.count(6), 0);
        for (int changes = 1; changes <= 12; changes++) {
            x.job(1, 1);
            due("count(6)", x.count(6), changes);
        }
        x.job(1, 1);
        due("count(6), refused", x.count(6), 12);
        x.set(0, 0, 2);
        due("count(6) of 13 changes", x.count(6), 12);
        x.undo();
        due("count(6), one taken back", x.count(6), 11);
        x.put(0);
        x.sheet(0, 0, 1);
        due("count(6), what is no change", x.count(6), 11);
    }

    private static void keepsOneLess() {
        FellersOrder x = chain(12);
        for (int job = 0; job < 11; job++) {
            x.put(job);
            due("keeps() up to " + job, x.keeps(), 0);
        }
        x.put(11);
        due("keeps() of all", x.keeps(), 1);
        x.undo();
        due("keeps() behind undo", x.keeps(), 0);
        FellersOrder one = alike(1);
        due("keeps() of none of one", one.keeps(), 0);
        one.put(0);
        due("keeps() of one", one.keeps(), 1);
        one.undo();
        due("keeps() of none of none", one.keeps(), 1);
    }

    private static void whyWithoutReason() {
        due("why(0) of no jobs", new FellersOrder().why(0), -1);
        due("why(1) of no jobs", new FellersOrder().why(1), -1);
        FellersOrder x = chain(2);
        for (int what : new int[] {-1, 2, LOW, HIGH}) {
            due("why(" + what + "), it does not keep", x.why(what), -1);
        }
        putAll(x, 0, 1);
        for (int what = -1; what <= 2; what++) {
            due("why(" + what + "), it keeps", x.why(what), -1);
        }
    }

    private static void whyNothingLacks() {
        FellersOrder x = chain(12);
        for (int job = 0; job < 12; job++) {
            due("why(0)", x.why(0), -2);
            due("why(1)", x.why(1), job);
            x.put(job);
        }
        FellersOrder free = fullYard();
        putAll(free, 0, 1, 2, 4, 5, 6, 7, 8, 9, 10, 11);
        due("why(0), one left out", free.why(0), -2);
        due("why(1), one left out", free.why(1), 3);
    }

    private static void whySomethingLacks() {
        FellersOrder x = chain(12);
        putAll(x, 11);
        due("why(0), eleven lack", x.why(0), 11);
        due("why(1), eleven lack", x.why(1), 0);
        putAll(x, 0, 1, 3, 2);
        due("why(0), one lacks, though it comes later", x.why(0), 3);
        due("why(1), one lacks, though it comes later", x.why(1), 2);
        putAll(x, 0, 5, 3);
        due("why(0), the first of two", x.why(0), 5);
        due("why(1), the least that lacks ahead of it", x.why(1), 1);
        putAll(x, 0, 1, 2, 3, 4, 5, 6, 7, 8, 9, 11, 10);
        due("why(0), all there", x.why(0), 11);
        due("why(1), all there", x.why(1), 10);
        FellersOrder turned = yard(1, 1, 1, 1);
        turned.lay(1, 0);
        putAll(turned, 0);
        due("why(0), 0 lacks 1", turned.why(0), 0);
        due("why(1), 0 lacks 1", turned.why(1), 1);
    }

    private static void costs() {
        FellersOrder x = fullYard();
        due("cost() of none", x.cost(), 0);
        int cost = 0;
        for (int job = 0; job < 12; job++) {
            x.put(job);
            cost += 2 * 2 * (job + 1);
            due("cost() of " + (job + 1), x.cost(), cost);
        }
        FellersOrder idle = yard(100, 0);
        putAll(idle, 0);
        due("cost() of no weight", idle.cost(), 0);
        idle.set(0, 1, 1);
        idle.set(0, 2, 500);
        due("cost() at the last moment", idle.cost(), 600);
    }

    private static void swapOfNoPlaces() {
        FellersOrder x = yard(1, 1, 2, 3, 4, 5);
        int[][] orders = {{}, {0}, {0, 1}, {0, 1, 2}};
        for (int size = 0; size <= 3; size++) {
            putAll(x, orders[size]);
            for (int i : new int[] {-1, size - 1, size, size + 1, LOW, HIGH}) {
                due("swap(" + i + ") of " + size, x.swap(i), NO_PLACES);
            }
        }
        due("swap(0)", x.swap(0), 2 * 1 - 1 * 3);
        due("swap(1)", x.swap(1), 4 * 3 - 2 * 5);
    }

    private static void swapGrowth() {
        FellersOrder x = fullYard();
        x.set(10, 1, 100);
        x.set(11, 0, 100);
        for (int job = 0; job < 12; job++) {
            x.put(job);
        }
        due("swap(0), as dear", x.swap(0), 0);
        due("swap(9), cheaper", x.swap(9), 2 * 2 - 2 * 100);
        due("swap(10), the last places", x.swap(10), 100 * 100 - 2 * 2);
        due("told(10, 6), nothing has changed", x.told(10, 6), 10);
        int before = x.cost();
        due("cost()", before, 4 * 55 + 100 * 22 + 2 * 122);
        // What must come ahead does not hinder the question.
        x.lay(0, 1);
        due("swap(0) of a pair laid", x.swap(0), 0);
        x.set(0, 2, 500);
        int othersSooner = 2 * (8 * 2 + 100 + 2);
        due("swap(0), the first one late", x.swap(0), 2 * 2 + 2 * 502 - 2 * 502 - 2 * 504 - othersSooner);
    }

    private static void swapLeavesStatus() {
        FellersOrder x = alike(2);
        putAll(x, 0, 1);
        x.put(0);
        x.swap(0);
        due("status() behind swap(0)", x.status(), 3);
        x.clear();
        x.swap(5);
        due("status() behind swap of no places", x.status(), 0);
    }

    private static void blockOfNone() {
        due("block(0, 0) of no jobs", new FellersOrder().block(0, 0), -1);
        FellersOrder x = yard(1, 3, 1, 2, 1, 1);
        for (int what = 0; what <= 2; what++) {
            for (int i : new int[] {-1, 3, 12, LOW, HIGH}) {
                due("block(" + i + ", " + what + ")", x.block(i, what), -1);
            }
        }
        for (int what : new int[] {-1, 3, LOW, HIGH}) {
            due("block(0, " + what + ")", x.block(0, what), -1);
        }
        due("block(0, 0)", x.block(0, 0), 1);
        due("block(2, 0)", x.block(2, 0), 4);
    }

    private static void blockGreatest() {
        FellersOrder x = new FellersOrder();
        for (int job = 0; job < 12; job++) {
            x.job(100, 100);
        }
        due("block(0, 0)", x.block(0, 0), 4095);
        due("block(0, 1)", x.block(0, 1), 1200);
        due("block(0, 2)", x.block(0, 2), 1200);
        FellersOrder least = yard(1, 0);
        due("block(0, 0) of the least", least.block(0, 0), 1);
        due("block(0, 1) of the least", least.block(0, 1), 0);
        due("block(0, 2) of the least", least.block(0, 2), 1);
    }

    private static void leasts() {
        due("least() of none", new FellersOrder().least(), 0);
        due("least() of the least", yard(1, 0).least(), 0);
        due("least() of one", yard(100, 100).least(), 10000);
        FellersOrder x = fullYard();
        due("least() of twelve", x.least(), 4 * 78);
        x.set(11, 1, 100);
        due("least() with a heavy one", x.least(), 100 * 2 + 4 * 77);
        for (int job = 0; job < 11; job++) {
            x.lay(job, 11);
        }
        due("least() with the heavy one behind all", x.least(), 4 * 66 + 100 * 24);
    }

    private static void bestOfNone() {
        due("best(0) of no jobs", new FellersOrder().best(0), -1);
        FellersOrder x = alike(3);
        for (int i : new int[] {-1, 3, 12, LOW, HIGH}) {
            due("best(" + i + ")", x.best(i), -1);
        }
        due("best(2)", x.best(2), 2);
        x.undo();
        due("best(2) of two", x.best(2), -1);
    }

    private static void bestOfTwelve() {
        FellersOrder x = new FellersOrder();
        for (int job = 0; job < 12; job++) {
            x.job(12 - job, 1);
        }
        for (int i = 0; i < 12; i++) {
            due("best(" + i + ")", x.best(i), 11 - i);
        }
        due("best(12)", x.best(12), -1);
    }

    private static void manyOfNone() {
        FellersOrder x = new FellersOrder();
        due("many() of no jobs", x.many(), 1);
        x.job(1, 1);
        due("many() of one", x.many(), 1);
        x.undo();
        due("many() of no jobs again", x.many(), 1);
    }

    private static void manyLeastAndMost() {
        due("many() of twelve alike", fullYard().many(), 479001600);
        due("many() of twelve in a chain", chain(12).many(), 1);
        due("many() of two alike", alike(2).many(), 2);
        FellersOrder idle = new FellersOrder();
        for (int job = 0; job < 12; job++) {
            idle.job(job + 1, 0);
        }
        due("many() of twelve of no weight", idle.many(), 479001600);
        idle.set(0, 1, 1);
        due("many() of eleven of no weight", idle.many(), 39916800);
    }

    private static void fixedOfNone() {
        FellersOrder x = chain(3);
        for (int job : NO_JOBS_OF_3) {
            due("fixed(" + job + ", 0)", x.fixed(job, 0), -1);
            due("fixed(0, " + job + ")", x.fixed(0, job), -1);
        }
        for (int job = 0; job < 3; job++) {
            due("fixed(" + job + ", " + job + ")", x.fixed(job, job), -1);
        }
    }

    private static void fixedOfTwelve() {
        FellersOrder x = chain(12);
        FellersOrder alike = fullYard();
        for (int a = 0; a < 12; a++) {
            for (int b = 0; b < 12; b++) {
                if (a != b) {
                    due("fixed(" + a + ", " + b + ") of a chain", x.fixed(a, b), a < b ? 1 : 0);
                    due("fixed(" + a + ", " + b + ") of all alike", alike.fixed(a, b), 0);
                }
            }
        }
    }

    private static void seriesOfFewAndAll() {
        due("series() of no jobs", new FellersOrder().series(), 1);
        due("series() of three in a chain", chain(3).series(), 1);
        due("series() of twelve alike", fullYard().series(), 1);
        due("series() of twelve in a chain", chain(12).series(), 1);
        FellersOrder x = fullYard();
        x.lay(11, 9);
        x.lay(10, 9);
        x.lay(10, 8);
        due("series() of the last four", x.series(), 0);
        x.undo();
        due("series() behind undo", x.series(), 1);
    }

    private static void showsNothing() {
        for (int i = -1; i <= 4; i++) {
            due("shows(" + i + ") of no jobs", new FellersOrder().shows(i), -1);
            due("shows(" + i + ") of a chain", chain(4).shows(i), -1);
        }
        FellersOrder x = crossing();
        for (int i : new int[] {-1, 4, LOW, HIGH}) {
            due("shows(" + i + ") of a crossing", x.shows(i), -1);
        }
        for (int i = 0; i <= 3; i++) {
            due("shows(" + i + ") of a crossing", x.shows(i), i);
        }
    }

    private static void showsAre(FellersOrder x, int... jobs) {
        for (int i = 0; i <= 3; i++) {
            due("shows(" + i + ")", x.shows(i), jobs[i]);
        }
    }

    private static void showsTheLeast() {
        FellersOrder last = fullYard();
        last.lay(10, 9);
        last.lay(11, 9);
        last.lay(11, 8);
        showsAre(last, 10, 11, 9, 8);
        last.lay(11, 7);
        showsAre(last, 10, 11, 9, 7);
        last.lay(10, 6);
        last.lay(11, 6);
        showsAre(last, 10, 11, 6, 7);
        last.lay(5, 6);
        showsAre(last, 5, 10, 6, 9);
        last.lay(4, 9);
        last.lay(4, 6);
        showsAre(last, 4, 11, 6, 7);
        last.lay(4, 0);
        showsAre(last, 4, 11, 6, 7);
        last.lay(3, 9);
        last.lay(3, 2);
        showsAre(last, 3, 4, 9, 0);
        FellersOrder zeroAsB = alike(4);
        zeroAsB.lay(1, 2);
        zeroAsB.lay(0, 2);
        zeroAsB.lay(0, 3);
        showsAre(zeroAsB, 1, 0, 2, 3);
        FellersOrder zeroAsC = alike(4);
        zeroAsC.lay(1, 0);
        zeroAsC.lay(2, 0);
        zeroAsC.lay(2, 3);
        showsAre(zeroAsC, 1, 2, 0, 3);
    }

    private static void turnedOfNoWeight() {
        FellersOrder x = fullYard();
        for (int job = 0; job < 12; job++) {
            x.set(job, 1, 0);
            due("turned() with " + job + " of no weight", x.turned(), -1);
            x.set(job, 1, 1);
        }
        due("turned() with all of weight 1", x.turned(), 2 * 78);
        due("turned() of no jobs", new FellersOrder().turned(), 0);
    }

    private static void turnedAbout() {
        due("turned() of one", yard(100, 1).turned(), 100);
        FellersOrder x = yard(1, 100, 100, 1);
        due("turned() of two", x.turned(), 1 * 100 + 101 * 1);
        x.lay(1, 0);
        due("turned() of two, laid", x.turned(), 1 * 100 + 101 * 100);
        x.set(0, 2, 500);
        due("turned() with a moment", x.turned(), 1 * 100 + 101 * 100);
        due("least(), as it was", x.least(), 1 * 100 + 101 * 100);
        due("told(0, 0), as it was", x.told(0, 0), 1);
    }

    private static void traceOfNone() {
        FellersOrder x = yard(1, 1);
        for (int i : new int[] {-1, 0, 1, 49, 50, LOW, HIGH}) {
            due("trace(" + i + ") before any act", x.trace(i), -1);
        }
        x.act(0, 3, 0);
        due("trace(0)", x.trace(0), 21);
        due("trace(8)", x.trace(8), 12);
        for (int i : new int[] {-1, 9, 49, 50, LOW, HIGH}) {
            due("trace(" + i + ") of nine", x.trace(i), -1);
        }
        x.act(0, 2, 0);
        due("trace(1), the latest act's last", x.trace(1), 12);
        due("trace(2), of an act before", x.trace(2), -1);
    }

    private static void questionsLeaveStatus() {
        FellersOrder x = crossing();
        Runnable[] questions = {
            () -> x.told(9, 9), () -> x.ahead(9, 9), () -> x.count(9), () -> x.keeps(), () -> x.why(9), () -> x.cost(),
            () -> x.swap(9), () -> x.block(9, 9), () -> x.least(), () -> x.best(9), () -> x.many(), () -> x.fixed(9, 9),
            () -> x.series(), () -> x.shows(9), () -> x.turned(), () -> x.trace(99), () -> x.status(),
        };
        for (int i = 0; i < questions.length; i++) {
            x.put(12);
            questions[i].run();
            due("status() behind question " + i + ", 1 before", x.status(), 1);
            x.clear();
            questions[i].run();
            due("status() behind question " + i + ", 0 before", x.status(), 0);
        }
    }
}
