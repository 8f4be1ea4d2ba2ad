/** The sentences of promises 9 to 15 that name a boundary case, each with a test of its own. */
public final class RunBoundaryTest extends Sentences {
    public static void main(String[] args) {
        sentence("Runs the program with the registers x, y and 0, from block 0", RunBoundaryTest::runBegins);
        sentence("until it STOPs or 80 blocks were carried out", RunBoundaryTest::runTires);
        sentence("(a block is carried out with its way on: a run whose 80th block STOPs is STOPPED)",
                RunBoundaryTest::the80thStops);
        sentence("BAD, changing nothing, when it is not regular.", RunBoundaryTest::runRefuses);
        sentence("What the last run came to: NONE, STOPPED or TIRED.", RunBoundaryTest::outcomes);
        sentence("Register r at the end of the last run; 0 when there was none", RunBoundaryTest::registersWithoutRun);
        sentence("0 when there was none, or r is not 0 .. 2.", RunBoundaryTest::registersOfOthers);
        sentence("How many numbers the last run put out; 0 when there was none.", RunBoundaryTest::outsNoneAndAll);
        sentence("The number that the last run put out k before its last one (k = 0 the last), for k from 0 to 7",
                RunBoundaryTest::lastOutFirstAndLast);
        sentence("0 when there were not so many", RunBoundaryTest::lastOutNotSoMany);
        sentence("or k is another number.", RunBoundaryTest::lastOutOfOthers);
        sentence("The number of blocks that the last run carried out; 0 when there was none.",
                RunBoundaryTest::carriedNoneAndAll);
        sentence("How often the last run carried out block b; 0 when there was none",
                RunBoundaryTest::visitsNoneAndAll);
        sentence("0 when there was none, or b is not 0 .. 7.", RunBoundaryTest::visitsOfOthers);
        checks.end();
    }

    private static void runBegins() {
        for (int value : new int[] {MIN, -1, 0, 1, MAX}) {
            Relooper x = new Relooper();
            x.run(value, ~value);
            checks.due("register 0", x.register(0), value);
            checks.due("register 1", x.register(1), ~value);
            checks.due("register 2", x.register(2), 0);
            x.act(0, MOVE + 2, 0);
            x.run(value, 1);
            x.act(0, NOTHING, 0);
            x.run(2, 3);
            checks.due("register 2 at 0 again", x.register(2), 0);
        }
        Relooper tired = chain(7);
        tired.way(7, GO, 7, 0);
        tired.run(0, 0);
        tired.way(0, STOP, 0, 0);
        tired.run(0, 0);
        checks.due("from block 0, wherever the run before ended", tired.visits(0), 1);
        checks.due("from block 0, wherever the run before ended", tired.visits(7), 0);
    }

    /** Comes to carry out so many blocks, 3 or more, if nothing ends it; the last puts out and STOPs. */
    private static Relooper runOf(int blocks) {
        Relooper x = new Relooper();
        x.way(0, GO, 1, 0);
        x.act(1, ADD, -1);
        x.way(1, TEST, 1, 2);
        x.act(2, PUT + 1, 0);
        int answer = x.run(blocks - 2, 6);
        checks.due("run of " + blocks, answer, blocks > 80 ? Relooper.TIRED : Relooper.STOPPED);
        checks.due("outcome of " + blocks, x.outcome(), answer);
        return x;
    }

    private static void runTires() {
        for (int blocks : new int[] {81, 82, 160, MAX}) {
            Relooper x = runOf(blocks);
            checks.due("carried of " + blocks, x.carried(), 80);
            checks.due("visits 1 of " + blocks, x.visits(1), 79);
            checks.due("visits 2 of " + blocks, x.visits(2), 0);
            checks.due("outs of " + blocks, x.outs(), 0);
            checks.due("register 0 of " + blocks, x.register(0), blocks - 81);
        }
        Relooper ever = new Relooper();
        ever.act(0, ADD + 1, 1);
        ever.way(0, GO, 0, 0);
        checks.due("a run without end", ever.run(0, 0), Relooper.TIRED);
        checks.due("a run without end: the 80th action, no 81st", ever.register(1), 80);
        Relooper x = countdown();
        checks.due("the 80th block GOes on", x.run(40, 0), Relooper.TIRED);
        checks.due("the 80th block GOes on: its action", x.register(0), 0);
        checks.due("the 80th block GOes on: outs", x.outs(), 40);
        checks.due("it tires anew", x.run(40, 0), Relooper.TIRED);
        checks.due("it tires no more", x.run(0, 0), Relooper.STOPPED);
    }

    private static void the80thStops() {
        for (int blocks : new int[] {3, 4, 78, 79, 80}) {
            Relooper x = runOf(blocks);
            checks.due("carried of " + blocks, x.carried(), blocks);
            checks.due("visits 2 of " + blocks, x.visits(2), 1);
            checks.due("the last action of " + blocks, x.lastOut(0), 6);
        }
        Relooper x = countdown();
        checks.due("another 80th block that STOPs", x.run(39, 0), Relooper.STOPPED);
        checks.due("another 80th block that STOPs: carried", x.carried(), 80);
    }

    private static void runRefuses() {
        Relooper x = irregular();
        String none = lastRun(x);
        String shape = shape(x);
        checks.due("before any run", x.run(5, 6), Relooper.BAD);
        checks.due("before any run, changing nothing", lastRun(x), none);
        checks.due("changing nothing of the program", shape(x), shape);
        for (int first : new int[] {2, 40}) {
            Relooper later = countdown();
            String program = program(later);
            later.run(first, 5);
            String before = lastRun(later);
            later.way(2, TEST, 3, 4);
            later.way(3, GO, 4, 0);
            later.way(4, GO, 3, 0);
            checks.due("after a run", later.run(50, 60), Relooper.BAD);
            checks.due("once more", later.run(-1, 0), Relooper.BAD);
            checks.due("after a run, changing nothing", lastRun(later), before);
            later.way(2, STOP, 0, 0);
            checks.due("the program is as it was", program(later), program);
        }
    }

    private static void outcomes() {
        Relooper x = irregular();
        checks.due("before any run", x.outcome(), Relooper.NONE);
        x.run(1, 1);
        checks.due("BAD is no outcome", x.outcome(), Relooper.NONE);
        x.way(2, GO, 0, 0);
        checks.due("no run yet", x.outcome(), Relooper.NONE);
        x.run(1, 1);
        checks.due("TIRED", x.outcome(), Relooper.TIRED);
        x.way(2, STOP, 0, 0);
        x.run(1, 1);
        checks.due("STOPPED", x.outcome(), Relooper.STOPPED);
    }

    private static void registersWithoutRun() {
        Relooper x = irregular();
        x.act(0, ADD, 5);
        for (int r = 0; r < 3; r++) {
            checks.due("register " + r, x.register(r), 0);
        }
        x.run(7, 8);
        for (int r = 0; r < 3; r++) {
            checks.due("register " + r + " after a run refused", x.register(r), 0);
        }
    }

    private static void registersOfOthers() {
        Relooper x = new Relooper();
        for (int r : NOT_REGISTERS) {
            checks.due("register " + r + " before any run", x.register(r), 0);
        }
        x.act(0, MOVE + 2, 1);
        x.run(MIN, MAX);
        for (int r : NOT_REGISTERS) {
            checks.due("register " + r, x.register(r), 0);
        }
        checks.due("register 0", x.register(0), MIN);
        checks.due("register 2", x.register(2), MAX);
    }

    /** Puts out n, n - 1, .. 1 when run with an n from 1 to 39, none when n is below 1. */
    private static Relooper putsDown() {
        Relooper x = new Relooper();
        x.way(0, TEST, 1, 3);
        x.act(1, PUT, 0);
        x.way(1, GO, 2, 0);
        x.act(2, ADD, -1);
        x.way(2, TEST, 1, 3);
        return x;
    }

    private static void outsNoneAndAll() {
        Relooper x = putsDown();
        checks.due("before any run", x.outs(), 0);
        for (int n : new int[] {7, 0, 1, 8, 9, 38}) {
            x.run(n, 0);
            checks.due("outs of " + n, x.outs(), n);
        }
        Relooper all = new Relooper();
        all.act(0, PUT, 0);
        all.way(0, GO, 1, 0);
        all.act(1, PUT + 1, 0);
        all.way(1, GO, 0, 0);
        all.run(3, 4);
        checks.due("every block puts out", all.outs(), 80);
        for (int k = 0; k < 8; k++) {
            checks.due("lastOut " + k + " of 80", all.lastOut(k), k % 2 == 0 ? 4 : 3);
        }
        all.act(0, NOTHING, 0);
        all.act(1, NOTHING, 0);
        all.run(3, 4);
        checks.due("no block puts out", all.outs(), 0);
    }

    private static void lastOutFirstAndLast() {
        Relooper x = putsDown();
        for (int n : new int[] {8, 9, 38}) {
            x.run(n, 0);
            for (int k = 0; k < 8; k++) {
                checks.due("lastOut " + k + " of " + n, x.lastOut(k), k + 1);
            }
        }
        x.run(100, 0);
        for (int k = 0; k < 8; k++) {
            // Block 0 comes first, so the 80th block is the 40th that puts out.
            checks.due("lastOut " + k + " of a run that tired", x.lastOut(k), 61 + k);
        }
        Relooper edges = putsDown();
        edges.act(2, ADD, MIN);
        edges.run(MAX, 0);
        checks.due("the greatest number", edges.lastOut(0), MAX);
        edges.act(0, MOVE, 1);
        edges.way(0, GO, 1, 0);
        edges.run(0, MIN);
        checks.due("the least number", edges.lastOut(0), MIN);
    }

    private static void lastOutNotSoMany() {
        Relooper x = putsDown();
        for (int k = 0; k < 8; k++) {
            checks.due("lastOut " + k + " before any run", x.lastOut(k), 0);
        }
        // From many to few: the numbers of a run before must not be told.
        x.act(0, PUT, 0);
        x.way(1, GO, 1, 0);
        x.run(5, 0);
        checks.due("as many as can be put out", x.outs(), 80);
        x.act(0, NOTHING, 0);
        x.way(1, GO, 2, 0);
        for (int n : new int[] {38, 7, 6, 1, 0}) {
            x.run(n, 0);
            for (int k = 0; k < 8; k++) {
                checks.due("lastOut " + k + " of " + n, x.lastOut(k), k < n ? k + 1 : 0);
            }
        }
    }

    private static void lastOutOfOthers() {
        Relooper x = putsDown();
        // From many to few: behind the last number still stands one of a run before.
        for (int n : new int[] {100, 38, 9, 8, 1, 0}) {
            x.run(n, 0);
            for (int k : new int[] {-1, -2, 8, 9, 31, 32, 37, 39, 40, 79, 80, 81, 256, 65536, MIN, MAX}) {
                checks.due("lastOut " + k + " of " + n, x.lastOut(k), 0);
            }
        }
    }

    private static void carriedNoneAndAll() {
        Relooper x = irregular();
        checks.due("before any run", x.carried(), 0);
        x.run(0, 0);
        checks.due("after a run refused", x.carried(), 0);
        for (int last = 7; last >= 0; last--) {
            Relooper row = chain(last);
            row.run(0, 0);
            checks.due("a row of " + (last + 1), row.carried(), last + 1);
        }
        checks.due("79", runOf(79).carried(), 79);
        checks.due("80", runOf(80).carried(), 80);
        checks.due("81", runOf(81).carried(), 80);
    }

    private static void visitsNoneAndAll() {
        Relooper x = irregular();
        for (int b = 0; b < 8; b++) {
            checks.due("visits " + b + " before any run", x.visits(b), 0);
        }
        x.run(0, 0);
        for (int b = 0; b < 8; b++) {
            checks.due("visits " + b + " after a run refused", x.visits(b), 0);
        }
        x.way(0, GO, 0, 0);
        x.run(0, 0);
        checks.due("all visits are to 0", x.visits(0), 80);
        x.way(0, GO, 7, 0);
        x.way(7, GO, 7, 0);
        x.run(0, 0);
        checks.due("visits 0 anew", x.visits(0), 1);
        checks.due("all but one are to 7", x.visits(7), 79);
    }

    private static void visitsOfOthers() {
        Relooper x = chain(7);
        for (int b : NOT_BLOCKS) {
            checks.due("visits " + b + " before any run", x.visits(b), 0);
        }
        x.run(0, 0);
        for (int b : NOT_BLOCKS) {
            checks.due("visits " + b, x.visits(b), 0);
        }
        checks.due("visits 0", x.visits(0), 1);
        checks.due("visits 7", x.visits(7), 1);
    }
}
