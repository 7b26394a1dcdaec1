import java.util.ArrayList;
import java.util.List;
import java.util.function.Supplier;
import java.util.function.ToIntFunction;

/**
 * "Such calls answer -1 and change nothing else": each refused call in four states, and all that can be
 * asked, undone or read from sheets is the same with it as without it. Every look has an object of its
 * own, so that none gets more than 512 calls.
 */
public final class RefusedCallsTest extends Checks {
    private static List<Integer> asItWas;
    private static Supplier<FellersOrder> state;

    public static void main(String[] args) {
        test("refused by a new object", () -> refusals(FellersOrder::new, RefusedCallsTest::refusedByNew));
        test("refused with some jobs", () -> refusals(RefusedCallsTest::someJobs, RefusedCallsTest::refusedBySome));
        test("refused with twelve jobs", () -> refusals(RefusedCallsTest::twelveJobs, RefusedCallsTest::refusedByTwelve));
        test("refused with nothing to undo", () -> refusals(RefusedCallsTest::nothingToUndo, RefusedCallsTest::refusedBySpent));
        test("questions change nothing", RefusedCallsTest::questionsChangeNothing);
        test("forge changes nothing", RefusedCallsTest::forgeChangesNothing);
        test("act changes THE TRACE alone", RefusedCallsTest::actChangesTheTraceAlone);
        test("put and clear change THE ORDER alone", RefusedCallsTest::putAndClearChangeTheOrderAlone);
        test("sheet and cell change a SHEET alone", RefusedCallsTest::sheetAndCellChangeASheetAlone);
        test("undo takes a change back whole", RefusedCallsTest::undoTakesBackWhole);
        finish();
    }

    private static FellersOrder someJobs() {
        FellersOrder x = yard(3, 6, 1, 5, 4, 0, 2, 9, 1, 1);
        x.lay(2, 3);
        x.lay(3, 1);
        x.lay(0, 4);
        x.set(4, 2, 9);
        x.sheet(0, 0, 4);
        writeCells(x, 0, 0, 7, 9, 101);
        x.sheet(1, 1, 5);
        writeCells(x, 1, 10, 20, 30, 40, 50);
        x.sheet(2, 2, 3);
        writeCells(x, 2, 100, 100, 99);
        x.sheet(3, 0, 0);
        putAll(x, 3, 0, 2);
        x.act(1, 3, 4);
        return x;
    }

    private static FellersOrder twelveJobs() {
        FellersOrder x = new FellersOrder();
        for (int job = 0; job < 12; job++) {
            x.job(1 + job, 12 - job % 3);
        }
        for (int job = 11; job > 0; job--) {
            x.put(job);
            x.lay(job, job - 1);
        }
        x.free(6, 5);
        x.put(0);
        x.sheet(5, 1, 20);
        for (int i = 0; i < 20; i++) {
            x.cell(5, i, 1 + i);
        }
        x.sheet(4, 0, 2);
        writeCells(x, 4, 5, 6);
        x.act(0, 3, 1);
        return x;
    }

    private static FellersOrder nothingToUndo() {
        FellersOrder x = spent();
        putAll(x, 5, 3, 11);
        x.act(3, 0, 1);
        return x;
    }

    private static void refusals(Supplier<FellersOrder> made, Runnable calls) {
        state = made;
        asItWas = look(made);
        calls.run();
    }

    private static void refuses(int status, String name, ToIntFunction<FellersOrder> call) {
        FellersOrder x = state.get();
        refused(x, name, call.applyAsInt(x), status);
        sameAsBefore(name, call);
        // A refused call that is followed by another one leaves nothing behind for that, either.
        FellersOrder again = state.get();
        call.applyAsInt(again);
        refused(again, name + " again", call.applyAsInt(again), status);
    }

    private static void sameAsBefore(String name, ToIntFunction<FellersOrder> call) {
        List<Integer> now = look(() -> {
            FellersOrder x = state.get();
            call.applyAsInt(x);
            return x;
        });
        due("what is seen behind " + name + ", as it was", now.equals(asItWas) ? 1 : 0, 1);
    }

    /** Everything that an object answers, each part asked of an object made anew. */
    private static List<Integer> look(Supplier<FellersOrder> made) {
        List<Integer> seen = new ArrayList<>();
        lookAtJobs(made.get(), seen);
        lookAtPairs(made.get(), seen);
        lookAtYard(made.get(), seen);
        for (int sheet = 0; sheet < 6; sheet++) {
            lookAtSheet(made.get(), sheet, seen);
        }
        for (int undone = 1; undone <= 13; undone++) {
            lookBehindUndo(made.get(), undone, seen);
        }
        return seen;
    }

    private static void lookAtJobs(FellersOrder x, List<Integer> seen) {
        for (int job = 0; job < 12; job++) {
            for (int what = 0; what <= 7; what++) {
                seen.add(x.told(job, what));
            }
        }
    }

    private static void lookAtPairs(FellersOrder x, List<Integer> seen) {
        for (int a = 0; a < 12; a++) {
            for (int b = 0; b < 12; b++) {
                seen.add(x.ahead(a, b));
                seen.add(x.fixed(a, b));
            }
        }
    }

    private static void lookAtYard(FellersOrder x, List<Integer> seen) {
        for (int what = 0; what <= 6; what++) {
            seen.add(x.count(what));
        }
        seen.add(x.keeps());
        seen.add(x.why(0));
        seen.add(x.why(1));
        seen.add(x.cost());
        seen.add(x.least());
        seen.add(x.many());
        seen.add(x.series());
        seen.add(x.turned());
        for (int i = 0; i < 12; i++) {
            seen.add(x.swap(i));
            seen.add(x.best(i));
            seen.add(x.trace(i));
            seen.add(x.shows(i));
            for (int what = 0; what <= 2; what++) {
                seen.add(x.block(i, what));
            }
        }
    }

    private static void lookAtSheet(FellersOrder x, int sheet, List<Integer> seen) {
        for (int n = 0; n <= 3; n++) {
            for (int what : new int[] {0, 2, 3}) {
                seen.add(x.forge(sheet, what, n));
                seen.add(x.status());
            }
        }
        // Room for one more job, if there was none.
        x.undo();
        for (int sort = 0; sort <= 2; sort++) {
            for (int i = 0; i < 20; i++) {
                int job = x.fromSheet(sheet, sort, i);
                seen.add(job);
                seen.add(x.status());
                if (job != -1) {
                    seen.add(x.told(job, 0));
                    seen.add(x.told(job, 1));
                    x.undo();
                }
            }
        }
    }

    private static void lookBehindUndo(FellersOrder x, int undone, List<Integer> seen) {
        for (int i = 0; i < undone; i++) {
            seen.add(x.undo());
        }
        for (int what = 0; what <= 6; what++) {
            seen.add(x.count(what));
        }
        for (int job = 0; job < 12; job++) {
            for (int what = 0; what <= 2; what++) {
                seen.add(x.told(job, what));
            }
            for (int other = 0; other < 12; other++) {
                seen.add(x.ahead(job, other));
            }
        }
    }

    /** What no state allows. */
    private static void refusedByAny() {
        for (int[] n : new int[][] {{0, 1}, {101, 1}, {1, -1}, {1, 101}, {LOW, HIGH}}) {
            refuses(1, "job(" + n[0] + ", " + n[1] + ")", x -> x.job(n[0], n[1]));
        }
        int[][] sets = {
            {0, 0, 0}, {0, 0, 101}, {0, 1, -1}, {0, 1, 101}, {0, 2, -1}, {0, 2, 501}, {0, -1, 1}, {0, 3, 1}, {-1, 0, 1},
            {12, 0, 1}, {HIGH, LOW, 1},
        };
        for (int[] n : sets) {
            refuses(1, "set(" + n[0] + ", " + n[1] + ", " + n[2] + ")", x -> x.set(n[0], n[1], n[2]));
        }
        for (int[] n : new int[][] {{-1, 0}, {0, -1}, {12, 0}, {0, 12}, {12, 12}, {LOW, HIGH}}) {
            refuses(1, "lay(" + n[0] + ", " + n[1] + ")", x -> x.lay(n[0], n[1]));
            refuses(1, "free(" + n[0] + ", " + n[1] + ")", x -> x.free(n[0], n[1]));
        }
        for (int job : new int[] {-1, 12, LOW, HIGH}) {
            refuses(1, "put(" + job + ")", x -> x.put(job));
            refuses(1, "act(" + job + ", 0, 1)", x -> x.act(job, 0, 1));
        }
        refuses(1, "act(0, -1, 1)", x -> x.act(0, -1, 1));
        refuses(1, "act(0, 4, 1)", x -> x.act(0, 4, 1));
        refusedSheetsByAny();
    }

    private static void refusedSheetsByAny() {
        int[][] sheets = {{-1, 0, 1}, {6, 0, 1}, {-1, -1, 1}, {6, -1, 1}, {0, -2, 1}, {0, 3, 1}, {1, 0, -1}, {1, 1, 21}, {5, 2, HIGH}};
        for (int[] n : sheets) {
            refuses(1, "sheet(" + n[0] + ", " + n[1] + ", " + n[2] + ")", x -> x.sheet(n[0], n[1], n[2]));
        }
        for (int sheet : new int[] {-1, 6, LOW, HIGH}) {
            refuses(1, "cell(" + sheet + ", 0, 1)", x -> x.cell(sheet, 0, 1));
            refuses(1, "fromSheet(" + sheet + ", 0, 0)", x -> x.fromSheet(sheet, 0, 0));
            refuses(1, "forge(" + sheet + ", 1, 1)", x -> x.forge(sheet, 1, 1));
        }
        for (int bad : new int[] {-1, 3}) {
            refuses(1, "fromSheet(0, " + bad + ", 0)", x -> x.fromSheet(0, bad, 0));
        }
        for (int bad : new int[] {-1, 7}) {
            refuses(1, "forge(0, " + bad + ", 1)", x -> x.forge(0, bad, 1));
        }
        for (int bad : new int[] {-101, 101}) {
            refuses(1, "forge(0, 4, " + bad + ")", x -> x.forge(0, 4, bad));
        }
        refuses(13, "forge(0, 1, -1)", x -> x.forge(0, 1, -1));
        refuses(15, "forge(0, 4, 0)", x -> x.forge(0, 4, 0));
        refuses(10, "forge(0, 5, 0)", x -> x.forge(0, 5, 0));
    }

    private static void refusedByNew() {
        refusedByAny();
        refuses(1, "set(0, 0, 1)", x -> x.set(0, 0, 1));
        refuses(1, "lay(0, 1)", x -> x.lay(0, 1));
        refuses(1, "free(0, 1)", x -> x.free(0, 1));
        refuses(1, "put(0)", x -> x.put(0));
        refuses(1, "act(0, 0, 1)", x -> x.act(0, 0, 1));
        refuses(3, "undo()", FellersOrder::undo);
        for (int sheet = 0; sheet <= 5; sheet++) {
            int s = sheet;
            refuses(10, "cell(" + s + ", 0, 1)", x -> x.cell(s, 0, 1));
            refuses(10, "fromSheet(" + s + ", 0, 0)", x -> x.fromSheet(s, 0, 0));
            refuses(10, "forge(" + s + ", 0, 0)", x -> x.forge(s, 0, 0));
            refuses(10, "forge(" + s + ", 2, 0)", x -> x.forge(s, 2, 0));
        }
        refuses(10, "forge(0, 6, 0)", x -> x.forge(0, 6, 0));
    }

    private static void refusedBySome() {
        refusedByAny();
        refuses(1, "set(5, 0, 1)", x -> x.set(5, 0, 1));
        refuses(1, "lay(0, 5)", x -> x.lay(0, 5));
        refuses(1, "lay(5, 0)", x -> x.lay(5, 0));
        refuses(1, "free(5, 0)", x -> x.free(5, 0));
        refuses(1, "put(5)", x -> x.put(5));
        refuses(1, "act(5, 3, 1)", x -> x.act(5, 3, 1));
        refuses(3, "lay(2, 2), a = b", x -> x.lay(2, 2));
        refuses(3, "lay(2, 3), laid already", x -> x.lay(2, 3));
        refuses(3, "lay(3, 2), against one laid", x -> x.lay(3, 2));
        refuses(3, "lay(1, 2), against what is so", x -> x.lay(1, 2));
        refuses(3, "free(2, 1), so but not laid", x -> x.free(2, 1));
        refuses(3, "free(3, 2), the other way", x -> x.free(3, 2));
        refuses(3, "free(0, 3), never laid", x -> x.free(0, 3));
        refuses(3, "put(3), the first", x -> x.put(3));
        refuses(3, "put(2), the last", x -> x.put(2));
        refuses(10, "cell(4, 0, 1)", x -> x.cell(4, 0, 1));
        refuses(12, "cell(0, 4, 1)", x -> x.cell(0, 4, 1));
        refuses(12, "cell(1, -1, 1)", x -> x.cell(1, -1, 1));
        refuses(12, "cell(2, 3, 1)", x -> x.cell(2, 3, 1));
        refuses(12, "cell(3, 0, 1)", x -> x.cell(3, 0, 1));
        refuses(10, "fromSheet(4, 0, 0)", x -> x.fromSheet(4, 0, 0));
        refuses(11, "fromSheet(0, 1, 1)", x -> x.fromSheet(0, 1, 1));
        refuses(11, "fromSheet(1, 2, 1)", x -> x.fromSheet(1, 2, 1));
        refuses(12, "fromSheet(0, 0, 3)", x -> x.fromSheet(0, 0, 3));
        refuses(12, "fromSheet(0, 0, -1)", x -> x.fromSheet(0, 0, -1));
        refuses(12, "fromSheet(3, 0, 0)", x -> x.fromSheet(3, 0, 0));
        refuses(3, "fromSheet(0, 0, 0), no length", x -> x.fromSheet(0, 0, 0));
        refuses(3, "fromSheet(0, 0, 2), no weight", x -> x.fromSheet(0, 0, 2));
        refusedForgesBySome();
    }

    private static void refusedForgesBySome() {
        refuses(11, "forge(0, 0, 1)", x -> x.forge(0, 0, 1));
        refuses(10, "forge(4, 0, 1)", x -> x.forge(4, 0, 1));
        refuses(10, "forge(4, 2, 1)", x -> x.forge(4, 2, 1));
        refuses(11, "forge(0, 2, 1)", x -> x.forge(0, 2, 1));
        refuses(12, "forge(1, 2, -1)", x -> x.forge(1, 2, -1));
        refuses(12, "forge(1, 2, 4)", x -> x.forge(1, 2, 4));
        refuses(14, "forge(1, 3, 0)", x -> x.forge(1, 3, 0));
        refuses(14, "forge(2, 3, 0)", x -> x.forge(2, 3, 0));
        refuses(11, "forge(0, 6, 0)", x -> x.forge(0, 6, 0));
        refuses(10, "forge(0, 6, 5)", x -> x.forge(0, 6, 5));
    }

    private static void refusedByTwelve() {
        refusedByAny();
        refuses(2, "job(1, 1)", x -> x.job(1, 1));
        refuses(2, "fromSheet(5, 1, 0)", x -> x.fromSheet(5, 1, 0));
        refuses(2, "fromSheet(0, 0, 0)", x -> x.fromSheet(0, 0, 0));
        refuses(2, "fromSheet(5, 0, 99)", x -> x.fromSheet(5, 0, 99));
        refuses(3, "put(0)", x -> x.put(0));
        refuses(3, "put(11)", x -> x.put(11));
        refuses(3, "lay(0, 5), against what is so", x -> x.lay(0, 5));
        refuses(3, "lay(11, 10), laid already", x -> x.lay(11, 10));
        refuses(3, "free(6, 5), freed already", x -> x.free(6, 5));
        refuses(12, "cell(5, 20, 1)", x -> x.cell(5, 20, 1));
        refuses(12, "forge(5, 2, 4)", x -> x.forge(5, 2, 4));
        refuses(11, "forge(0, 6, 11)", x -> x.forge(0, 6, 11));
    }

    private static void refusedBySpent() {
        refusedByAny();
        refuses(3, "undo()", FellersOrder::undo);
        refuses(2, "job(1, 1)", x -> x.job(1, 1));
        refuses(3, "lay(0, 0)", x -> x.lay(0, 0));
        refuses(3, "free(0, 1)", x -> x.free(0, 1));
        refuses(3, "put(5)", x -> x.put(5));
    }

    private static int askAll(FellersOrder x) {
        for (int i = -1; i <= 12; i += 1) {
            for (int j = -1; j <= 3; j++) {
                x.told(i, 4 + j);
                x.ahead(i, j);
                x.fixed(i, j);
                x.block(i, j);
            }
            x.count(i);
            x.why(i);
            x.swap(i);
            x.best(i);
            x.shows(i);
            x.trace(i);
        }
        x.keeps();
        x.cost();
        x.least();
        x.many();
        x.series();
        x.turned();
        return x.status();
    }

    private static FellersOrder asked(Supplier<FellersOrder> made) {
        FellersOrder x = made.get();
        x.least();
        x.fixed(0, 1);
        x.block(0, 0);
        x.swap(0);
        x.turned();
        x.count(4);
        x.shows(0);
        return x;
    }

    private static void questionsChangeNothing() {
        List<Supplier<FellersOrder>> states = List.of(
                FellersOrder::new, RefusedCallsTest::someJobs, RefusedCallsTest::twelveJobs, RefusedCallsTest::nothingToUndo);
        for (Supplier<FellersOrder> made : states) {
            state = made;
            asItWas = look(made);
            due("what is seen when asked before, as it was", look(() -> asked(made)).equals(asItWas) ? 1 : 0, 1);
            FellersOrder x = made.get();
            x.put(12);
            due("status() behind all questions", askAll(x), 1);
        }
    }

    private static void forgeChangesNothing() {
        state = RefusedCallsTest::someJobs;
        asItWas = look(state);
        int[][] forges = {
            {0, 0, 0}, {1, 0, 1}, {2, 0, 2}, {0, 1, 20}, {1, 1, 0}, {1, 2, 0}, {1, 2, 3}, {0, 3, 0}, {4, 3, 0}, {1, 4, 7},
            {1, 5, 1}, {1, 6, 1},
        };
        for (int[] n : forges) {
            String name = "forge(" + n[0] + ", " + n[1] + ", " + n[2] + ")";
            FellersOrder x = someJobs();
            x.put(12);
            x.forge(n[0], n[1], n[2]);
            due("status() behind " + name, x.status(), 0);
            sameAsBefore(name, y -> y.forge(n[0], n[1], n[2]));
        }
    }

    private static void actChangesTheTraceAlone() {
        state = RefusedCallsTest::someJobs;
        asItWas = look(state);
        for (int job = 0; job < 5; job++) {
            int acting = job;
            sameAsBefore("act(" + job + ", 3, 9), the trace as before", x -> {
                x.act(acting, 3, 9);
                return x.act(1, 3, 4);
            });
        }
    }

    private static void putAndClearChangeTheOrderAlone() {
        state = RefusedCallsTest::someJobs;
        asItWas = look(state);
        sameAsBefore("put(1), clear() and the order as before", x -> {
            x.put(1);
            x.put(4);
            x.clear();
            x.put(3);
            x.put(0);
            return x.put(2);
        });
    }

    private static void sheetAndCellChangeASheetAlone() {
        state = RefusedCallsTest::someJobs;
        asItWas = look(state);
        sameAsBefore("cell(1, 4, ..) and back", x -> {
            x.cell(1, 4, 99);
            return x.cell(1, 4, 50);
        });
        sameAsBefore("sheet(4, ..) and missing again", x -> {
            x.sheet(4, 2, 20);
            x.cell(4, 19, 5);
            return x.sheet(4, -1, 0);
        });
        sameAsBefore("sheet(2, ..) made and written anew", x -> {
            x.sheet(2, 0, 20);
            x.sheet(2, 2, 3);
            writeCells(x, 2, 100, 100, 99);
            return 1;
        });
    }

    /** undo empties the order, so that it is put again as it was. */
    private static int undoAndPutAgain(FellersOrder x) {
        x.undo();
        x.put(3);
        x.put(0);
        return x.put(2);
    }

    private static void undoTakesBackWhole() {
        state = RefusedCallsTest::someJobs;
        asItWas = look(state);
        List<ToIntFunction<FellersOrder>> changes = List.of(
                x -> x.job(7, 7), x -> x.fromSheet(0, 0, 1), x -> x.set(1, 0, 50), x -> x.set(2, 1, 50), x -> x.set(3, 2, 500),
                x -> x.set(4, 2, 0), x -> x.lay(0, 1), x -> x.lay(2, 1), x -> x.free(2, 3), x -> x.free(0, 4));
        for (int i = 0; i < changes.size(); i++) {
            ToIntFunction<FellersOrder> change = changes.get(i);
            FellersOrder x = someJobs();
            int got = change.applyAsInt(x);
            due("status() behind change " + i + ", " + got, x.status(), 0);
            sameAsBefore("change " + i + " and undo()", y -> {
                change.applyAsInt(y);
                return undoAndPutAgain(y);
            });
        }
    }
}
