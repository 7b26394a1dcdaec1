/** The edges that promises 1 to 7, 29 and 30 name, a test for each sentence. */
public final class ChangesEdgesTest extends Checks {
    public static void main(String[] args) {
        test("1: No JOBS", ChangesEdgesTest::newHasNoJobs);
        test("1: an empty ORDER", ChangesEdgesTest::newHasAnEmptyOrder);
        test("1: all SHEETS missing", ChangesEdgesTest::newHasNoSheets);
        test("1: nothing that ran or could be undone", ChangesEdgesTest::newHasNothingBehindIt);
        test("2: job: MOMENT 0", ChangesEdgesTest::jobHasMoment0);
        test("2: job: its number", ChangesEdgesTest::jobAnswersItsNumber);
        test("2: job: STATUS 1", ChangesEdgesTest::jobOutside);
        test("2: job: STATUS 2", ChangesEdgesTest::jobWithoutRoom);
        test("3: set: what 0, 1, 2", ChangesEdgesTest::setWhat);
        test("3: set: what it was", ChangesEdgesTest::setAnswersWhatItWas);
        test("3: set: no such JOB", ChangesEdgesTest::setOfNoJob);
        test("3: set: each what has its own bounds", ChangesEdgesTest::setWithinItsBounds);
        test("4: lay: no such JOB", ChangesEdgesTest::layOfNoJob);
        test("4: lay: a = b", ChangesEdgesTest::layOfOneJob);
        test("4: lay: it is laid already", ChangesEdgesTest::layAgain);
        test("4: lay: b must come AHEAD of a", ChangesEdgesTest::layAgainst);
        test("4: lay: all pairs", ChangesEdgesTest::layAllPairs);
        test("5: free: no such JOB", ChangesEdgesTest::freeOfNoJob);
        test("5: free: it is not laid", ChangesEdgesTest::freeOfWhatIsNotLaid);
        test("5: free: is no more", ChangesEdgesTest::freeOfTheOnlyPair);
        test("6: put: no such JOB", ChangesEdgesTest::putOfNoJob);
        test("6: put: it is in it", ChangesEdgesTest::putAgain);
        test("6: put: how many it has", ChangesEdgesTest::putAnswersHowMany);
        test("7: clear: how many it had", ChangesEdgesTest::clearAnswersHowMany);
        test("7: clear: THE ORDER alone is empty", ChangesEdgesTest::clearLeavesTheRest);
        test("29: undo: there is none", ChangesEdgesTest::undoOfNothing);
        test("29: undo: of a job", ChangesEdgesTest::undoOfJob);
        test("29: undo: of fromSheet", ChangesEdgesTest::undoOfFromSheet);
        test("29: undo: of set", ChangesEdgesTest::undoOfSet);
        test("29: undo: of lay", ChangesEdgesTest::undoOfLay);
        test("29: undo: of free", ChangesEdgesTest::undoOfFree);
        test("29: undo: what was asked before is asked anew", ChangesEdgesTest::undoAndAskAnew);
        test("30: status: of a new object", ChangesEdgesTest::statusOfANewObject);
        test("30: status: 0 behind all that is done", ChangesEdgesTest::statusBehindDone);
        test("30: status: each number", ChangesEdgesTest::statusBehindRefusals);
        finish();
    }

    private static void newHasNoJobs() {
        FellersOrder x = new FellersOrder();
        due("count(0)", x.count(0), 0);
        due("count(1)", x.count(1), 0);
        due("count(3)", x.count(3), 0);
        due("count(4), the empty one alone", x.count(4), 1);
        for (int what = 0; what <= 7; what++) {
            due("told(0, " + what + ")", x.told(0, what), -1);
        }
        due("ahead(0, 0)", x.ahead(0, 0), -1);
        due("block(0, 0)", x.block(0, 0), -1);
        due("least()", x.least(), 0);
        due("best(0)", x.best(0), -1);
        due("many()", x.many(), 1);
        due("fixed(0, 1)", x.fixed(0, 1), -1);
        due("series()", x.series(), 1);
        due("shows(0)", x.shows(0), -1);
        due("turned()", x.turned(), 0);
        refused(x, "set(0, 0, 1)", x.set(0, 0, 1), 1);
        refused(x, "lay(0, 1)", x.lay(0, 1), 1);
        refused(x, "free(0, 1)", x.free(0, 1), 1);
        refused(x, "act(0, 0, 1)", x.act(0, 0, 1), 1);
        refused(x, "forge(0, 6, 0)", x.forge(0, 6, 0), 10);
    }

    private static void newHasAnEmptyOrder() {
        FellersOrder x = new FellersOrder();
        due("count(2)", x.count(2), 0);
        due("keeps()", x.keeps(), 1);
        due("why(0)", x.why(0), -1);
        due("why(1)", x.why(1), -1);
        due("cost()", x.cost(), 0);
        due("swap(0)", x.swap(0), NO_PLACES);
        done(x, "clear()", x.clear(), 0);
        refused(x, "put(0)", x.put(0), 1);
    }

    private static void newHasNoSheets() {
        for (int sheet = 0; sheet <= 5; sheet++) {
            FellersOrder x = new FellersOrder();
            refused(x, "cell(" + sheet + ", 0, 1)", x.cell(sheet, 0, 1), 10);
            refused(x, "forge(" + sheet + ", 2, 0)", x.forge(sheet, 2, 0), 10);
        }
    }

    private static void newHasNothingBehindIt() {
        FellersOrder x = new FellersOrder();
        due("count(5)", x.count(5), 0);
        due("trace(0)", x.trace(0), -1);
        due("count(6)", x.count(6), 0);
        refused(x, "undo()", x.undo(), 3);
        FellersOrder other = fullYard();
        due("count(0) of another object", other.count(0), 12);
        due("count(0)", x.count(0), 0);
    }

    private static void jobHasMoment0() {
        FellersOrder x = yard(3, 4);
        x.set(0, 2, 500);
        x.undo();
        x.undo();
        done(x, "job(3, 4)", x.job(3, 4), 0);
        due("told(0, 2)", x.told(0, 2), 0);
        x.set(0, 2, 7);
        done(x, "job(5, 6)", x.job(5, 6), 1);
        due("told(1, 2)", x.told(1, 2), 0);
    }

    private static void jobAnswersItsNumber() {
        FellersOrder x = new FellersOrder();
        for (int job = 0; job <= 11; job++) {
            done(x, "job " + job, x.job(job + 1, 100 - job), job);
            due("its length", x.told(job, 0), job + 1);
            due("its weight", x.told(job, 1), 100 - job);
            due("how many are ahead of it", x.told(job, 4), 0);
            due("of how many it is ahead", x.told(job, 5), 0);
            due("its place", x.told(job, 6), -1);
        }
    }

    private static void jobOutside() {
        FellersOrder x = new FellersOrder();
        for (int[] bad : new int[][] {{0, 0}, {101, 0}, {1, -1}, {1, 101}, {0, 101}, {LOW, 0}, {1, LOW}, {HIGH, 0}, {1, HIGH}}) {
            refused(x, "job(" + bad[0] + ", " + bad[1] + ")", x.job(bad[0], bad[1]), 1);
        }
        due("count(0)", x.count(0), 0);
        due("count(6)", x.count(6), 0);
        done(x, "job(1, 0)", x.job(1, 0), 0);
        done(x, "job(100, 100)", x.job(100, 100), 1);
        done(x, "job(1, 100)", x.job(1, 100), 2);
        done(x, "job(100, 0)", x.job(100, 0), 3);
    }

    private static void jobWithoutRoom() {
        FellersOrder x = spent();
        refused(x, "a 13th job", x.job(1, 1), 2);
        due("count(0)", x.count(0), 12);
        due("count(6)", x.count(6), 0);
        FellersOrder room = fullYard();
        refused(room, "a 13th job", room.job(9, 9), 2);
        room.undo();
        done(room, "a 12th job", room.job(9, 9), 11);
    }

    private static void setWhat() {
        FellersOrder x = yard(3, 4, 5, 6);
        done(x, "set(1, 0, 50)", x.set(1, 0, 50), 5);
        done(x, "set(1, 1, 60)", x.set(1, 1, 60), 6);
        done(x, "set(1, 2, 70)", x.set(1, 2, 70), 0);
        for (int what = 0; what <= 2; what++) {
            due("told(1, " + what + ")", x.told(1, what), 50 + 10 * what);
        }
        for (int what : new int[] {-1, 3, LOW, HIGH}) {
            refused(x, "set(1, " + what + ", 1)", x.set(1, what, 1), 1);
        }
        due("told(0, 0)", x.told(0, 0), 3);
        due("told(0, 1)", x.told(0, 1), 4);
        due("told(0, 2)", x.told(0, 2), 0);
    }

    private static void setAnswersWhatItWas() {
        FellersOrder x = yard(1, 0, 100, 100);
        done(x, "a length of 1", x.set(0, 0, 1), 1);
        done(x, "a weight of 0", x.set(0, 1, 0), 0);
        done(x, "a moment of 0", x.set(0, 2, 0), 0);
        done(x, "a length of 100", x.set(1, 0, 1), 100);
        done(x, "a weight of 100", x.set(1, 1, 0), 100);
        x.set(1, 2, 500);
        done(x, "a moment of 500", x.set(1, 2, 0), 500);
        due("count(6), what stays as it was counts", x.count(6), 9);
    }

    private static void setOfNoJob() {
        FellersOrder x = alike(3);
        for (int job : NO_JOBS_OF_3) {
            refused(x, "set(" + job + ", 0, 5)", x.set(job, 0, 5), 1);
        }
        done(x, "set(0, 0, 5)", x.set(0, 0, 5), 2);
        done(x, "set(2, 0, 5)", x.set(2, 0, 5), 2);
        due("count(6)", x.count(6), 5);
    }

    private static void setWithinItsBounds() {
        FellersOrder x = alike(1);
        int[] lowest = {1, 0, 0};
        int[] highest = {100, 100, 500};
        for (int what = 0; what <= 2; what++) {
            int now = what == 2 ? 0 : 2;
            refused(x, "below, what " + what, x.set(0, what, lowest[what] - 1), 1);
            refused(x, "above, what " + what, x.set(0, what, highest[what] + 1), 1);
            done(x, "the lowest, what " + what, x.set(0, what, lowest[what]), now);
            done(x, "the highest, what " + what, x.set(0, what, highest[what]), lowest[what]);
            due("told(0, " + what + ")", x.told(0, what), highest[what]);
        }
    }

    private static void layOfNoJob() {
        FellersOrder x = alike(3);
        for (int job : NO_JOBS_OF_3) {
            refused(x, "lay(" + job + ", 0)", x.lay(job, 0), 1);
            refused(x, "lay(0, " + job + ")", x.lay(0, job), 1);
            refused(x, "lay(" + job + ", " + job + ")", x.lay(job, job), 1);
        }
        due("count(1)", x.count(1), 0);
        done(x, "lay(2, 0)", x.lay(2, 0), 1);
        done(x, "lay(1, 2)", x.lay(1, 2), 1);
    }

    private static void layOfOneJob() {
        FellersOrder x = fullYard();
        for (int job = 0; job < 12; job++) {
            refused(x, "lay(" + job + ", " + job + ")", x.lay(job, job), 3);
        }
        due("count(1)", x.count(1), 0);
    }

    private static void layAgain() {
        FellersOrder x = chain(3);
        refused(x, "lay(0, 1)", x.lay(0, 1), 3);
        refused(x, "lay(1, 2)", x.lay(1, 2), 3);
        done(x, "lay(0, 2), so but not laid", x.lay(0, 2), 1);
        refused(x, "lay(0, 2) again", x.lay(0, 2), 3);
        due("count(1)", x.count(1), 3);
        x.free(0, 2);
        done(x, "lay(0, 2), freed", x.lay(0, 2), 1);
        due("count(6)", x.count(6), 8);
    }

    private static void layAgainst() {
        FellersOrder x = chain(12);
        refused(x, "lay(1, 0), laid", x.lay(1, 0), 3);
        refused(x, "lay(2, 0), so by one", x.lay(2, 0), 3);
        refused(x, "lay(11, 0), so by ten", x.lay(11, 0), 3);
        due("count(1)", x.count(1), 11);
        x.free(5, 6);
        refused(x, "lay(5, 0)", x.lay(5, 0), 3);
        done(x, "lay(6, 0), not so any more", x.lay(6, 0), 1);
        refused(x, "lay(5, 6), so the other way now", x.lay(5, 6), 3);
        done(x, "lay(5, 11), neither ahead of the other", x.lay(5, 11), 1);
    }

    private static void layAllPairs() {
        FellersOrder x = fullYard();
        int pairs = 0;
        for (int a = 11; a >= 0; a--) {
            for (int b = a + 1; b < 12; b++) {
                due("lay(" + a + ", " + b + ")", x.lay(a, b), 1);
                pairs++;
                due("count(1)", x.count(1), pairs);
            }
        }
        due("all pairs", pairs, 66);
        for (int job = 0; job < 12; job++) {
            refused(x, "lay(" + job + ", 0)", x.lay(job, 0), 3);
            refused(x, "lay(0, " + job + ")", x.lay(0, job), 3);
        }
        due("many()", x.many(), 1);
        due("count(4)", x.count(4), 13);
        due("series()", x.series(), 1);
        due("count(6)", x.count(6), 12);
    }

    private static void freeOfNoJob() {
        FellersOrder x = chain(3);
        for (int job : NO_JOBS_OF_3) {
            refused(x, "free(" + job + ", 1)", x.free(job, 1), 1);
            refused(x, "free(1, " + job + ")", x.free(1, job), 1);
            refused(x, "free(" + job + ", " + job + ")", x.free(job, job), 1);
        }
        due("count(1)", x.count(1), 2);
        done(x, "free(0, 1)", x.free(0, 1), 1);
        done(x, "free(1, 2)", x.free(1, 2), 1);
    }

    private static void freeOfWhatIsNotLaid() {
        FellersOrder x = chain(3);
        refused(x, "free(0, 2), so but not laid", x.free(0, 2), 3);
        refused(x, "free(1, 0), the other way", x.free(1, 0), 3);
        refused(x, "free(1, 1)", x.free(1, 1), 3);
        due("count(1)", x.count(1), 2);
        x.free(0, 1);
        refused(x, "free(0, 1) again", x.free(0, 1), 3);
        x.undo();
        done(x, "free(0, 1), laid again by undo", x.free(0, 1), 1);
        due("count(1)", x.count(1), 1);
    }

    private static void freeOfTheOnlyPair() {
        FellersOrder x = chain(3);
        x.lay(0, 2);
        done(x, "free(0, 1)", x.free(0, 1), 1);
        due("ahead(0, 1)", x.ahead(0, 1), 0);
        due("ahead(0, 2), laid", x.ahead(0, 2), 2);
        done(x, "free(1, 2)", x.free(1, 2), 1);
        done(x, "free(0, 2)", x.free(0, 2), 1);
        due("count(1)", x.count(1), 0);
        due("ahead(0, 2)", x.ahead(0, 2), 0);
        due("told(2, 4)", x.told(2, 4), 0);
        due("told(0, 5)", x.told(0, 5), 0);
        due("many()", x.many(), 6);
    }

    private static void putOfNoJob() {
        FellersOrder x = alike(3);
        for (int job : NO_JOBS_OF_3) {
            refused(x, "put(" + job + ")", x.put(job), 1);
        }
        due("count(2)", x.count(2), 0);
        done(x, "put(2)", x.put(2), 1);
        done(x, "put(0)", x.put(0), 2);
    }

    private static void putAgain() {
        FellersOrder x = alike(3);
        x.put(1);
        refused(x, "put(1), the only one", x.put(1), 3);
        x.put(2);
        refused(x, "put(1), the first", x.put(1), 3);
        refused(x, "put(2), the last", x.put(2), 3);
        due("count(2)", x.count(2), 2);
        due("told(1, 6)", x.told(1, 6), 0);
        due("told(2, 6)", x.told(2, 6), 1);
        x.clear();
        done(x, "put(1) behind clear", x.put(1), 1);
    }

    private static void putAnswersHowMany() {
        FellersOrder x = chain(12);
        for (int i = 0; i < 12; i++) {
            done(x, "put(" + (11 - i) + "), none of it kept", x.put(11 - i), i + 1);
            due("told(" + (11 - i) + ", 6)", x.told(11 - i, 6), i);
        }
    }

    private static void clearAnswersHowMany() {
        FellersOrder x = fullYard();
        done(x, "clear() of none", x.clear(), 0);
        x.put(11);
        done(x, "clear() of one", x.clear(), 1);
        for (int job = 0; job < 12; job++) {
            x.put(job);
        }
        done(x, "clear() of twelve", x.clear(), 12);
        done(x, "clear() again", x.clear(), 0);
    }

    private static void clearLeavesTheRest() {
        FellersOrder x = chain(3);
        x.put(0);
        x.act(0, 3, 1);
        x.sheet(0, 0, 3);
        x.clear();
        due("count(0)", x.count(0), 3);
        due("count(1)", x.count(1), 2);
        due("count(2)", x.count(2), 0);
        due("count(5)", x.count(5), 4);
        due("count(6)", x.count(6), 5);
        due("forge(0, 0, 0)", x.forge(0, 0, 0), 3);
    }

    private static void undoOfNothing() {
        FellersOrder x = new FellersOrder();
        refused(x, "undo() of a new object", x.undo(), 3);
        x.sheet(0, 0, 3);
        x.cell(0, 0, 1);
        x.clear();
        x.forge(0, 1, 1);
        refused(x, "undo() of what is no change", x.undo(), 3);
        due("forge(0, 0, 0)", x.forge(0, 0, 0), 3);
        x.job(1, 1);
        x.put(0);
        x.act(0, 0, 0);
        done(x, "undo() of the job", x.undo(), 1);
        refused(x, "undo() of nothing more", x.undo(), 3);
        FellersOrder spent = spent();
        refused(spent, "undo() with jobs there", spent.undo(), 3);
        due("count(0)", spent.count(0), 12);
    }

    private static void undoOfJob() {
        FellersOrder x = fullYard();
        for (int left = 11; left >= 0; left--) {
            done(x, "undo()", x.undo(), 1);
            due("count(0)", x.count(0), left);
            due("told of it", x.told(left, 0), -1);
        }
        done(x, "job(5, 6)", x.job(5, 6), 0);
        due("least()", x.least(), 30);
    }

    private static void undoOfFromSheet() {
        FellersOrder x = yard(3, 4);
        x.sheet(5, 2, 2);
        writeCells(x, 5, 100, 100);
        done(x, "fromSheet(5, 2, 0)", x.fromSheet(5, 2, 0), 1);
        done(x, "undo()", x.undo(), 1);
        due("count(0)", x.count(0), 1);
        due("forge(5, 0, 2)", x.forge(5, 0, 2), 2);
        done(x, "fromSheet(5, 2, 0) again", x.fromSheet(5, 2, 0), 1);
        due("told(1, 0)", x.told(1, 0), 100);
    }

    private static void undoOfSet() {
        FellersOrder x = yard(3, 4);
        x.set(0, 0, 100);
        x.set(0, 1, 0);
        x.set(0, 2, 500);
        x.set(0, 2, 500);
        done(x, "undo() of a set to the same", x.undo(), 1);
        due("told(0, 2)", x.told(0, 2), 500);
        done(x, "undo() of the moment", x.undo(), 1);
        due("told(0, 2)", x.told(0, 2), 0);
        due("told(0, 1)", x.told(0, 1), 0);
        done(x, "undo() of the weight", x.undo(), 1);
        due("told(0, 1)", x.told(0, 1), 4);
        due("told(0, 0)", x.told(0, 0), 100);
        done(x, "undo() of the length", x.undo(), 1);
        due("told(0, 0)", x.told(0, 0), 3);
        due("least()", x.least(), 12);
    }

    private static void undoOfLay() {
        FellersOrder x = chain(3);
        due("ahead(0, 2)", x.ahead(0, 2), 1);
        done(x, "undo()", x.undo(), 1);
        due("ahead(0, 2)", x.ahead(0, 2), 0);
        due("ahead(1, 2)", x.ahead(1, 2), 0);
        due("ahead(0, 1)", x.ahead(0, 1), 2);
        due("count(1)", x.count(1), 1);
        done(x, "lay(2, 0), free to be so now", x.lay(2, 0), 1);
        due("ahead(2, 1)", x.ahead(2, 1), 1);
    }

    private static void undoOfFree() {
        FellersOrder x = chain(3);
        x.free(0, 1);
        x.free(1, 2);
        done(x, "undo()", x.undo(), 1);
        due("ahead(1, 2)", x.ahead(1, 2), 2);
        due("ahead(0, 1)", x.ahead(0, 1), 0);
        done(x, "undo()", x.undo(), 1);
        due("ahead(0, 2)", x.ahead(0, 2), 1);
        due("count(1)", x.count(1), 2);
        due("count(6)", x.count(6), 5);
    }

    /** The first two jobs of a yard, with 7 the least cost and 1 ahead of 0. */
    private static void twoJobsAnswer(FellersOrder x) {
        due("least()", x.least(), 3 * 1 + 1 * 4);
        due("many()", x.many(), 1);
        due("best(0)", x.best(0), 1);
        due("best(1)", x.best(1), 0);
        due("best(2)", x.best(2), -1);
        due("fixed(1, 0)", x.fixed(1, 0), 1);
        due("block(0, 0)", x.block(0, 0), 2);
        due("count(3)", x.count(3), 2);
        due("count(4)", x.count(4), 4);
        due("turned()", x.turned(), 7);
        due("series()", x.series(), 1);
    }

    private static void undoAndAskAnew() {
        FellersOrder x = yard(3, 1, 1, 3);
        twoJobsAnswer(x);
        x.job(1, 100);
        due("least() of three", x.least(), 100 + 3 * 2 + 1 * 5);
        due("fixed(2, 1) of three", x.fixed(2, 1), 1);
        due("count(3) of three", x.count(3), 3);
        x.undo();
        twoJobsAnswer(x);
        x.lay(0, 1);
        due("least(), laid", x.least(), 1 * 3 + 3 * 4);
        due("fixed(0, 1), laid", x.fixed(0, 1), 1);
        due("count(3), laid", x.count(3), 1);
        x.undo();
        twoJobsAnswer(x);
        x.set(0, 1, 100);
        due("least(), heavier", x.least(), 100 * 3 + 3 * 4);
        due("best(0), heavier", x.best(0), 0);
        x.undo();
        twoJobsAnswer(x);
        x.set(1, 0, 100);
        due("least(), longer", x.least(), 1 * 3 + 3 * 103);
        due("block(0, 0), longer", x.block(0, 0), 1);
        x.undo();
        twoJobsAnswer(x);
    }

    private static void statusOfANewObject() {
        due("status()", new FellersOrder().status(), 0);
    }

    private static void statusBehindDone() {
        FellersOrder x = alike(2);
        x.sheet(0, 0, 2);
        x.cell(0, 0, 1);
        Runnable[] calls = {
            () -> x.job(1, 1), () -> x.set(0, 0, 1), () -> x.lay(0, 1), () -> x.free(0, 1), () -> x.put(0),
            () -> x.clear(), () -> x.sheet(1, -1, 0), () -> x.cell(0, 0, 1), () -> x.fromSheet(0, 0, 0),
            () -> x.act(0, 0, -4), () -> x.forge(0, 4, 1), () -> x.undo(),
        };
        for (int i = 0; i < calls.length; i++) {
            x.put(12);
            due("status() behind a refused call", x.status(), 1);
            calls[i].run();
            due("status() behind call " + i, x.status(), 0);
        }
    }

    private static void statusBehindRefusals() {
        FellersOrder x = fullYard();
        x.sheet(0, 1, 3);
        refused(x, "a number that is none such", x.put(12), 1);
        refused(x, "no room", x.job(1, 1), 2);
        refused(x, "it is not so", x.free(0, 1), 3);
        refused(x, "nothing where something is asked", x.cell(1, 0, 0), 10);
        refused(x, "a sheet of another sort", x.forge(0, 0, 0), 11);
        refused(x, "a place outside", x.cell(0, 3, 0), 12);
        refused(x, "a size below 0", x.forge(0, 1, -1), 13);
        refused(x, "a thing that does not fit", x.forge(0, 3, 0), 14);
        refused(x, "divided by 0", x.forge(0, 4, 0), 15);
        done(x, "clear()", x.clear(), 0);
    }
}
