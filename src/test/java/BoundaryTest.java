import java.io.IOException;
import java.nio.file.Files;
import java.nio.file.Path;
import java.util.List;
import java.util.function.ToLongFunction;

/**
 * A test of its own for each sentence of the document that names a boundary case: too small,
 * too large, empty, full, a wrap-around, a refused call. The table in main has the sentences
 * in the document's order and words.
 */
public final class BoundaryTest extends Examples {
    private static final Checks checks = new Checks();
    private static String document;

    public static void main(String[] args) throws IOException {
        document = oneLine(Files.readString(Path.of("../shared/DOC.md")));

        sentence("An object is used for at most 512 calls after it has been made",
                BoundaryTest::the512thCallAnswers);
        terms();
        setting();
        shapes();
        running();
        tellingOfTheLastRun();
        checks.end();
    }

    private static void terms() {
        sentence("There are BLOCKS 0 .. 7 and registers 0 .. 2 (ints).", BoundaryTest::firstAndLastOfAll);
        sentence("action 0 NOTHING; 1 + r ADD n (r is 0 .. 2): register r becomes register r + n; "
                + "4 + r PUT: register r is put out;",
                BoundaryTest::firstAndLastKinds);
        sentence("(sums wrap)", BoundaryTest::sumsWrap);
        sentence("MOVE n: register r becomes register n (n is 0 .. 2)", BoundaryTest::movesFromEachToEach);
        sentence("goes on with block a when register r is above 0, else with block b", BoundaryTest::testsAboveZero);
        sentence("a block that was never set has NOTHING and STOP", BoundaryTest::neverSet);
        sentence("Blocks that can be come to from block 0 along ways on are LIVE.", BoundaryTest::liveNoneAndAll);
        sentence("(h may be u or 0)", BoundaryTest::dominatedByItselfAndZero);
        sentence("an edge (from a block to one that its way on names) from u to h is a BACK edge when h dominates u",
                BoundaryTest::shortestAndLongestBackEdges);
        sentence("The program is REGULAR when there is no ring of forward edges.",
                BoundaryTest::shortestAndLongestRings);
        sentence("Two ways on of one TEST that name the same block are one edge.", BoundaryTest::oneEdge);
    }

    private static void setting() {
        sentence("All blocks NOTHING and STOP; no run.", BoundaryTest::newObject);
        sentence("Sets the action of block b. Answers true", BoundaryTest::actTakesTheEdges);
        sentence("false, changing nothing, when b is not 0 .. 7, kind is not 0 .. 9", BoundaryTest::actRefusesBlocks);
        sentence("kind is not 0 .. 9", BoundaryTest::actRefusesKinds);
        sentence("or kind is 7 .. 9 and n is not 0 .. 2", BoundaryTest::actRefusesMoves);
        sentence("(The last run stays as it was, here and below.)", BoundaryTest::lastRunStays);
        sentence("Sets the way on of block b. Answers true", BoundaryTest::wayTakesTheEdges);
        sentence("false, changing nothing, when b is not 0 .. 7, kind is not 0 .. 4", BoundaryTest::wayRefusesBlocks);
        sentence("kind is not 0 .. 4", BoundaryTest::wayRefusesKinds);
        sentence("x or y that kind uses (x as a for GO and TEST, y as b for TEST) is not 0 .. 7",
                BoundaryTest::wayRefusesTargets);
        sentence("x or y that kind uses", BoundaryTest::wayTakesAnyUnused);
    }

    private static void shapes() {
        sentence("The live blocks: bit b for block b.", BoundaryTest::liveBits);
        sentence("The blocks that dominate block b: bit h for block h", BoundaryTest::dominatorBits);
        sentence("0 when b is not live", BoundaryTest::noDominatorsWhenNotLive);
        sentence("0 when b is not live or not 0 .. 7.", BoundaryTest::noDominatorsOfOthers);
        sentence("Whether the program is regular.", BoundaryTest::regularEmptyAndFull);
        sentence("The live blocks that a back edge leads to: bit b for block b.", BoundaryTest::loopsNoneAndAll);
        sentence("The live blocks that at least two forward edges lead to: bit b for block b.",
                BoundaryTest::atLeastTwo);
    }

    private static void running() {
        sentence("Runs the program with the registers x, y and 0, from block 0", BoundaryTest::runBegins);
        sentence("until it STOPs or 80 blocks were carried out", BoundaryTest::runTires);
        sentence("(a block is carried out with its way on: a run whose 80th block STOPs is STOPPED)",
                BoundaryTest::the80thStops);
        sentence("BAD, changing nothing, when it is not regular.", BoundaryTest::runRefuses);
    }

    private static void tellingOfTheLastRun() {
        sentence("What the last run came to: NONE, STOPPED or TIRED.", BoundaryTest::outcomes);
        sentence("Register r at the end of the last run; 0 when there was none", BoundaryTest::registersWithoutRun);
        sentence("0 when there was none, or r is not 0 .. 2.", BoundaryTest::registersOfOthers);
        sentence("How many numbers the last run put out; 0 when there was none.", BoundaryTest::outsNoneAndAll);
        sentence("The number that the last run put out k before its last one (k = 0 the last), for k from 0 to 7",
                BoundaryTest::lastOutFirstAndLast);
        sentence("0 when there were not so many", BoundaryTest::lastOutNotSoMany);
        sentence("or k is another number.", BoundaryTest::lastOutOfOthers);
        sentence("The number of blocks that the last run carried out; 0 when there was none.",
                BoundaryTest::carriedNoneAndAll);
        sentence("How often the last run carried out block b; 0 when there was none", BoundaryTest::visitsNoneAndAll);
        sentence("0 when there was none, or b is not 0 .. 7.", BoundaryTest::visitsOfOthers);
        sentence("Block 0 is live always (live() has its bit also when no way on names it).",
                BoundaryTest::zeroIsLive);
    }

    /** A sentence that the document no longer has is wrong, as is a test that throws or checks nothing. */
    private static void sentence(String words, Runnable test) {
        checks.about('"' + words + '"');
        checks.due("stands in the document", document.contains(words), true);
        int before = checks.made();
        try {
            test.run();
        } catch (RuntimeException thrown) {
            checks.due("a call that throws nothing", thrown.toString(), "an answer");
        }
        checks.due("has checks", checks.made() > before, true);
    }

    private static String oneLine(String text) {
        return text.replaceAll("\\s+", " ");
    }

    // ---- What it is

    private static void the512thCallAnswers() {
        List<ToLongFunction<Relooper>> calls = List.of(
                x -> x.act(0, ADD, 3) ? 1 : 0, x -> x.act(8, ADD, 3) ? 1 : 0,
                x -> x.way(7, STOP, 0, 0) ? 1 : 0, x -> x.way(0, GO, 8, 0) ? 1 : 0,
                Relooper::live, x -> x.dominators(7), x -> x.regular() ? 1 : 0, Relooper::loops,
                Relooper::merges, x -> x.run(2, 5), Relooper::outcome, x -> x.register(0),
                Relooper::outs, x -> x.lastOut(1), Relooper::carried, x -> x.visits(3));
        for (int c = 0; c < calls.size(); c++) {
            Relooper fresh = busy();
            fresh.run(2, 5);
            Relooper used = busy();
            callUntilTheLast(used);
            checks.due("512th call, number " + c, calls.get(c).applyAsLong(used), calls.get(c).applyAsLong(fresh));
        }
    }

    /** busy() is 16 calls; with these there are 511, and the program is again that of busy(). */
    private static void callUntilTheLast(Relooper x) {
        for (int i = 0; i < 98; i++) {
            x.way(7, TEST, 1, 2);
            x.run(9, i);
            x.way(7, GO, 0, i);
            x.run(i, -i);
            x.way(7, STOP, 0, 0);
        }
        x.act(0, ADD, 4);
        x.act(0, ADD, 3);
        x.live();
        x.visits(8);
        x.run(2, 5);
    }

    // ---- Terms

    private static void firstAndLastOfAll() {
        for (int b : new int[] {0, 7}) {
            for (int r : new int[] {0, 2}) {
                for (int value : new int[] {MIN, -1, 0, 1, MAX}) {
                    Relooper x = new Relooper();
                    x.act(0, MOVE + 2, 0);
                    x.way(0, GO, b == 0 ? 6 : b, 0);
                    x.act(b == 0 ? 6 : b, PUT + r, 0);
                    checks.due("run", x.run(value, 5), Relooper.STOPPED);
                    checks.due("put out of register " + r, x.lastOut(0), value);
                    checks.due("register " + r, x.register(r), value);
                }
            }
            Relooper x = chain(b);
            x.act(b, ADD + 2, 11);
            x.run(0, 0);
            checks.due("the action of block " + b, x.register(2), 11);
            checks.due("visits " + b, x.visits(b), 1);
        }
    }

    /** Each kind at the end of a row of kinds is of its own sort, not of its neighbour's. */
    private static void firstAndLastKinds() {
        String[] due = {
            "10 20 0 0", "12 20 0 0", "10 22 0 0", "10 20 2 0", "10 20 0 1:10", "10 20 0 1:20", "10 20 0 1:0",
            "0 20 0 0", "10 0 0 0", "10 20 0 0"};
        for (int kind = 0; kind <= 9; kind++) {
            Relooper x = new Relooper();
            x.act(0, kind, 2);
            x.run(10, 20);
            String put = x.outs() == 0 ? "0" : x.outs() + ":" + x.lastOut(0);
            String told = x.register(0) + " " + x.register(1) + " " + x.register(2) + " " + put;
            checks.due("kind " + kind + " with n 2", told, due[kind]);
        }
        Relooper x = new Relooper();
        x.act(0, MOVE + 2, 0);
        x.run(10, 20);
        checks.due("the last kind", x.register(2), 10);
    }

    private static void sumsWrap() {
        int[][] sums = {
            {MAX, 1, MIN}, {MIN, -1, MAX}, {MAX, MAX, -2}, {MIN, MIN, 0}, {-1, MIN, MAX}, {1, MAX, MIN},
            {MAX, 0, MAX}, {MIN, 0, MIN}, {MIN, MAX, -1}};
        for (int r = 0; r < 3; r++) {
            for (int[] sum : sums) {
                Relooper x = new Relooper();
                x.act(0, MOVE + r, 0);
                x.way(0, GO, 1, 0);
                x.act(1, ADD + r, sum[1]);
                x.way(1, TEST + r, 2, 3);
                x.run(sum[0], 0);
                checks.due(sum[0] + " + " + sum[1] + " in register " + r, x.register(r), sum[2]);
                checks.due("the wrapped sum is what a TEST looks at", x.visits(2), sum[2] > 0 ? 1 : 0);
            }
        }
        Relooper again = new Relooper();
        again.act(0, ADD, 1 << 30);
        again.way(0, GO, 0, 0);
        again.run(7, 0);
        checks.due("80 times 2 to the 30th wraps 20 times", again.register(0), 7);
    }

    private static void movesFromEachToEach() {
        for (int r = 0; r < 3; r++) {
            for (int n = 0; n < 3; n++) {
                Relooper x = new Relooper();
                x.act(0, ADD + 2, 30);
                x.way(0, GO, 1, 0);
                checks.due("act MOVE", x.act(1, MOVE + r, n), true);
                x.run(10, 20);
                for (int s = 0; s < 3; s++) {
                    int from = s == r ? n : s;
                    checks.due("register " + s + " after " + n + " to " + r, x.register(s), 10 * (from + 1));
                }
            }
        }
    }

    private static void testsAboveZero() {
        for (int r = 0; r < 3; r++) {
            for (int value : new int[] {MIN, MIN + 1, -2, -1, 0, 1, 2, MAX - 1, MAX}) {
                Relooper x = new Relooper();
                // The other two registers would send the run the other way.
                int other = value > 0 ? 0 : 1;
                x.act(0, r == 2 ? MOVE + 2 : ADD + 2, r == 2 ? 0 : other);
                x.way(0, GO, 1, 0);
                x.act(1, r == 2 ? MOVE : NOTHING, 1);
                x.way(1, TEST + r, 6, 7);
                x.run(r == 1 ? other : value, r == 1 ? value : other);
                checks.due("register " + r + " of " + value + " to a", x.visits(6), value > 0 ? 1 : 0);
                checks.due("register " + r + " of " + value + " to b", x.visits(7), value > 0 ? 0 : 1);
            }
        }
    }

    private static void neverSet() {
        for (int b = 1; b < 8; b++) {
            Relooper x = new Relooper();
            x.way(0, GO, b, 0);
            checks.due("run to " + b, x.run(7, -8), Relooper.STOPPED);
            checks.due("run to " + b, lastRun(x),
                    "1 2 registers 7 -8 0 visits 1" + visitedOnce(b) + " outs 0:" + " 0".repeat(8));
            x.act(b, ADD, 1);
            checks.due("run to " + b + " with an action", x.run(7, -8), Relooper.STOPPED);
            checks.due("a block with an action alone has STOP", x.carried(), 2);
            Relooper wayAlone = new Relooper();
            wayAlone.way(0, GO, b, 0);
            wayAlone.way(b, TEST, b % 7 + 1, 0);
            wayAlone.run(7, -8);
            checks.due("a block with a way on alone has NOTHING", wayAlone.register(0), 7);
            checks.due("a block with a way on alone has NOTHING", wayAlone.outs(), 0);
        }
    }

    /** The visits of blocks 1 .. 7 when only b was come to. */
    private static String visitedOnce(int b) {
        return " 0".repeat(b - 1) + " 1" + " 0".repeat(7 - b);
    }

    private static void liveNoneAndAll() {
        Relooper none = new Relooper();
        checks.due("no way on", none.live(), 1);
        for (int b = 1; b < 8; b++) {
            none.way(b, TEST, b % 7 + 1, 0);
        }
        checks.due("ways on from all blocks but 0", none.live(), 1);
        checks.due("all in a row", chain(7).live(), 255);
        Relooper down = new Relooper();
        down.way(0, GO, 7, 0);
        for (int b = 7; b > 1; b--) {
            down.way(b, GO, b - 1, 0);
        }
        checks.due("all in a row downwards", down.live(), 255);
        down.way(2, STOP, 1, 1);
        checks.due("all but the last", down.live(), 253);
        down.way(7, STOP, 6, 6);
        checks.due("cut behind the second", down.live(), 129);
        Relooper spread = new Relooper();
        for (int b = 0; b < 3; b++) {
            spread.way(b, TEST, 2 * b + 1, 2 * b + 2);
        }
        spread.way(3, GO, 7, 0);
        checks.due("all by TESTs", spread.live(), 255);
        spread.way(2, GO, 6, 5);
        checks.due("GO names x alone", spread.live(), 255 - 32);
    }

    private static void dominatedByItselfAndZero() {
        for (Relooper x : new Relooper[] {new Relooper(), chain(7), busy(), irregular()}) {
            for (int b = 0; b < 8; b++) {
                boolean live = (x.live() >> b & 1) == 1;
                checks.due(b + " and itself", x.dominators(b) >> b & 1, live ? 1 : 0);
                checks.due(b + " and 0", x.dominators(b) & 1, live ? 1 : 0);
            }
        }
        checks.due("0 by itself alone", busy().dominators(0), 1);
        Relooper two = irregular();
        checks.due("by itself and 0 alone", two.dominators(1), 3);
        checks.due("by itself and 0 alone", two.dominators(2), 5);
        checks.due("by all eight", chain(7).dominators(7), 255);
    }

    private static void shortestAndLongestBackEdges() {
        for (int h = 0; h < 8; h++) {
            Relooper x = chain(7);
            x.way(7, GO, h, 0);
            checks.due("from 7 to " + h + " is a back edge", x.loops(), 1 << h);
            checks.due("from 7 to " + h + " is no forward edge", x.merges(), 0);
            Relooper self = chain(h);
            self.way(h, GO, h, 0);
            checks.due("from " + h + " to itself is a back edge", self.loops(), 1 << h);
        }
        Relooper past = chain(7);
        past.way(0, TEST, 1, 2);
        past.way(7, GO, 1, 0);
        checks.due("to a block that can be gone past is a forward edge", past.loops(), 0);
        checks.due("to a block that can be gone past is a forward edge", past.merges(), 6);
    }

    private static void shortestAndLongestRings() {
        for (int last = 1; last < 8; last++) {
            Relooper x = chain(last);
            x.way(last, GO, 1, 0);
            checks.due("a ring of " + last + " with one way in", x.regular(), true);
            x.way(0, TEST, last, 1);
            checks.due("a ring of " + last + " with two ways in", x.regular(), last == 1);
            x.way(last, GO, 0, 0);
            checks.due("a ring through block 0", x.regular(), true);
        }
        Relooper last = new Relooper();
        last.way(0, TEST, 6, 7);
        last.way(6, GO, 7, 0);
        last.way(7, GO, 6, 0);
        checks.due("a ring of the last two", last.regular(), false);
        last.way(0, STOP, 6, 7);
        checks.due("a ring that is not live", last.regular(), true);
        last.way(0, GO, 7, 6);
        checks.due("a ring with one way in", last.regular(), true);
        Relooper end = chain(5);
        end.way(5, TEST, 6, 7);
        end.way(6, GO, 7, 0);
        end.way(7, TEST, 6, 0);
        checks.due("a ring at the end of a chain", end.regular(), false);
    }

    private static void oneEdge() {
        for (int r = 0; r < 3; r++) {
            Relooper x = new Relooper();
            x.way(0, TEST + r, 7, 7);
            checks.due("one forward edge makes no merge", x.merges(), 0);
            checks.due("and the program is regular", x.regular(), true);
            for (int value = 0; value <= 1; value++) {
                checks.due("run", x.run(value, value), Relooper.STOPPED);
                checks.due("carried", x.carried(), 2);
                checks.due("visits", x.visits(7), 1);
            }
            x.way(7, TEST + r, 7, 7);
            checks.due("one back edge beside one forward edge makes no merge", x.merges(), 0);
            x.way(0, TEST + r, 1, 2);
            x.way(1, TEST + r, 2, 2);
            checks.due("it counts once beside another", x.merges(), 4);
        }
    }

    // ---- Promises 1 to 3

    private static void newObject() {
        Relooper x = new Relooper();
        checks.due("shape", shape(x), "1 true 0 0 dominators 1 0 0 0 0 0 0 0");
        checks.due("no run", lastRun(x), "0 0 registers 0 0 0 visits 0 0 0 0 0 0 0 0 outs 0:" + " 0".repeat(8));
        checks.due("run", x.run(3, -4), Relooper.STOPPED);
        checks.due("block 0 has NOTHING and STOP", lastRun(x),
                "1 1 registers 3 -4 0 visits 1 0 0 0 0 0 0 0 outs 0:" + " 0".repeat(8));
    }

    private static void actTakesTheEdges() {
        for (int b = 0; b < 8; b++) {
            for (int kind = 0; kind <= 9; kind++) {
                Relooper x = chain(b);
                checks.due("block " + b + " kind " + kind + " n 0", x.act(b, kind, 0), true);
                checks.due("block " + b + " kind " + kind + " n 2", x.act(b, kind, 2), true);
                for (int n : NOT_REGISTERS) {
                    checks.due("block " + b + " kind " + kind + " n " + n, x.act(b, kind, n), kind < MOVE);
                }
            }
            Relooper x = chain(b);
            x.act(b, ADD, 5);
            x.act(b, MOVE + 2, 1);
            x.run(1, 9);
            checks.due("the last action set is the one", x.register(0), 1);
            checks.due("the last action set is the one", x.register(2), 9);
            x.act(b, NOTHING, MAX);
            x.run(1, 9);
            checks.due("NOTHING takes the action away", x.register(2), 0);
        }
    }

    private static void actRefusesBlocks() {
        Relooper x = busy();
        String before = program(x);
        for (int b : NOT_BLOCKS) {
            for (int kind = 0; kind <= 9; kind++) {
                checks.due("block " + b + " kind " + kind, x.act(b, kind, 2), false);
            }
        }
        checks.due("changing nothing", program(x), before);
    }

    private static void actRefusesKinds() {
        Relooper x = busy();
        String before = program(x);
        for (int kind : new int[] {-1, -9, 10, 11, 12, 32, 33, 256, 265, 65536, MIN, MAX}) {
            for (int b = 0; b < 8; b++) {
                checks.due("block " + b + " kind " + kind, x.act(b, kind, 1), false);
            }
        }
        checks.due("changing nothing", program(x), before);
    }

    private static void actRefusesMoves() {
        Relooper x = busy();
        String before = program(x);
        for (int n : NOT_REGISTERS) {
            for (int kind = MOVE; kind <= 9; kind++) {
                for (int b = 0; b < 8; b++) {
                    checks.due("block " + b + " kind " + kind + " n " + n, x.act(b, kind, n), false);
                }
            }
        }
        checks.due("changing nothing", program(x), before);
    }

    private static void lastRunStays() {
        for (int first : new int[] {2, 100}) {
            Relooper x = countdown();
            x.run(first, 7);
            String before = lastRun(x);
            x.act(0, ADD, 9);
            checks.due("after act", lastRun(x), before);
            x.act(8, ADD, 9);
            x.act(0, 10, 9);
            x.act(0, MOVE, 3);
            checks.due("after an act refused", lastRun(x), before);
            x.way(0, STOP, 0, 0);
            checks.due("after way", lastRun(x), before);
            x.way(8, STOP, 0, 0);
            x.way(0, 5, 0, 0);
            x.way(0, GO, 8, 0);
            checks.due("after a way refused", lastRun(x), before);
            x.way(0, TEST, 1, 2);
            x.way(1, GO, 2, 0);
            x.way(2, GO, 1, 0);
            checks.due("after ways to what is not regular", lastRun(x), before);
            shape(x);
            checks.due("after asking for the shape", lastRun(x), before);
            x.run(50, 60);
            checks.due("after a run refused", lastRun(x), before);
        }
    }

    private static void wayTakesTheEdges() {
        for (int kind = 0; kind <= 4; kind++) {
            for (int b : new int[] {0, 7}) {
                for (int to : new int[] {0, 7}) {
                    for (int other : new int[] {0, 7}) {
                        Relooper x = new Relooper();
                        x.way(0, GO, 7, 0);
                        String call = "way(" + b + ", " + kind + ", " + to + ", " + other + ")";
                        checks.due(call, x.way(b, kind, to, other), true);
                        int first = kind >= GO ? 1 << to : 0;
                        int second = kind >= TEST ? 1 << other : 0;
                        int named = first | second;
                        checks.due(call + " live", x.live(), b == 0 ? 1 | named : 129);
                        checks.due(call + " loops", x.loops(), b == 0 ? named & 1 : named);
                    }
                }
            }
        }
        Relooper x = chain(7);
        x.way(3, GO, 3, 0);
        x.way(3, STOP, 0, 0);
        x.run(0, 0);
        checks.due("the last way on set is the one", x.carried(), 4);
    }

    private static void wayRefusesBlocks() {
        Relooper x = busy();
        String before = program(x);
        for (int b : NOT_BLOCKS) {
            for (int kind = 0; kind <= 4; kind++) {
                checks.due("block " + b + " kind " + kind, x.way(b, kind, 6, 7), false);
            }
        }
        checks.due("changing nothing", program(x), before);
    }

    private static void wayRefusesKinds() {
        Relooper x = busy();
        String before = program(x);
        for (int kind : new int[] {-1, -4, 5, 6, 7, 32, 33, 256, 258, 65536, MIN, MAX}) {
            for (int b = 0; b < 8; b++) {
                checks.due("block " + b + " kind " + kind, x.way(b, kind, 5, 6), false);
            }
        }
        checks.due("changing nothing", program(x), before);
    }

    private static void wayRefusesTargets() {
        Relooper x = busy();
        String before = program(x);
        for (int bad : NOT_BLOCKS) {
            for (int b = 0; b < 8; b++) {
                checks.due("GO " + bad + " from " + b, x.way(b, GO, bad, 5), false);
                for (int kind = TEST; kind <= 4; kind++) {
                    checks.due("TEST " + bad + " 5 from " + b, x.way(b, kind, bad, 5), false);
                    checks.due("TEST 5 " + bad + " from " + b, x.way(b, kind, 5, bad), false);
                    checks.due("TEST " + bad + " twice from " + b, x.way(b, kind, bad, bad), false);
                }
            }
        }
        checks.due("changing nothing", program(x), before);
    }

    private static void wayTakesAnyUnused() {
        for (int any : NOT_BLOCKS) {
            Relooper x = chain(2);
            checks.due("STOP " + any, x.way(1, STOP, any, any), true);
            checks.due("STOP " + any + " live", x.live(), 3);
            checks.due("STOP " + any + " run", x.run(1, 1), Relooper.STOPPED);
            checks.due("STOP " + any + " carried", x.carried(), 2);
            checks.due("GO 7 " + any, x.way(1, GO, 7, any), true);
            checks.due("GO 7 " + any + " live", x.live(), 131);
            checks.due("GO 7 " + any + " merges", x.merges(), 0);
            checks.due("GO 7 " + any + " run", x.run(0, 0), Relooper.STOPPED);
            checks.due("GO 7 " + any + " visits", x.visits(7), 1);
        }
    }

    // ---- Promises 4 to 8

    private static void liveBits() {
        for (int b = 1; b < 8; b++) {
            Relooper x = new Relooper();
            x.way(0, GO, b, 0);
            checks.due("0 and " + b, x.live(), 1 | 1 << b);
            checks.due("up to " + b, chain(b).live(), (1 << b + 1) - 1);
        }
        checks.due("none but 0", new Relooper().live(), 1);
        checks.due("all", busy().live(), 255);
    }

    private static void dominatorBits() {
        for (int b = 0; b < 8; b++) {
            checks.due("all before " + b + " in a row", chain(7).dominators(b), (1 << b + 1) - 1);
            Relooper x = new Relooper();
            x.way(0, GO, b, 0);
            checks.due("0 and " + b, x.dominators(b), 1 | 1 << b);
        }
        Relooper apart = new Relooper();
        apart.way(0, TEST, 1, 2);
        apart.way(1, GO, 7, 0);
        apart.way(2, GO, 7, 0);
        checks.due("neither of two ways", apart.dominators(7), 129);
    }

    private static void noDominatorsWhenNotLive() {
        Relooper x = chain(3);
        x.way(4, GO, 4, 0);
        x.way(5, GO, 6, 0);
        x.way(6, TEST, 3, 0);
        for (int b = 4; b < 8; b++) {
            checks.due("dominators of " + b, x.dominators(b), 0);
        }
        checks.due("live ones that they name", x.dominators(3), 15);
        x.way(1, STOP, 2, 2);
        checks.due("no longer live", x.dominators(2), 0);
        checks.due("no longer live", x.dominators(3), 0);
        checks.due("still live", x.dominators(1), 3);
        x.way(1, GO, 6, 0);
        checks.due("live now", x.dominators(6), 67);
        checks.due("live again", x.dominators(3), 75);
        checks.due("not live yet", x.dominators(5), 0);
    }

    private static void noDominatorsOfOthers() {
        for (Relooper x : new Relooper[] {new Relooper(), chain(7), busy()}) {
            for (int b : NOT_BLOCKS) {
                checks.due("dominators of " + b, x.dominators(b), 0);
            }
        }
        checks.due("dominators of the first", chain(7).dominators(0), 1);
        checks.due("dominators of the last", chain(7).dominators(7), 255);
    }

    private static void regularEmptyAndFull() {
        checks.due("no edge", new Relooper().regular(), true);
        checks.due("eight blocks", busy().regular(), true);
        Relooper x = new Relooper();
        for (int b = 0; b < 8; b++) {
            x.way(b, TEST, b, (b + 1) % 8);
        }
        checks.due("a back edge to each block", x.regular(), true);
        for (int b = 0; b < 8; b++) {
            x.way(b, TEST, (b + 1) % 8, (b + 2) % 8);
        }
        // From 7 it goes on with 1, which a way to 7 can leave out: 1, 2, .. 7, 1 is a ring.
        checks.due("sixteen edges with a ring", x.regular(), false);
        x.way(7, TEST, 0, 0);
        checks.due("fifteen edges, from 6 and 7 to 0", x.regular(), true);
    }

    private static void loopsNoneAndAll() {
        checks.due("none", chain(7).loops(), 0);
        Relooper all = new Relooper();
        for (int b = 0; b < 7; b++) {
            all.way(b, TEST, b, b + 1);
        }
        checks.due("all but the last", all.loops(), 127);
        all.way(7, GO, 7, 0);
        checks.due("all", all.loops(), 255);
        all.way(6, STOP, 6, 7);
        checks.due("none that is not live", all.loops(), 63);
        for (int b = 1; b < 8; b++) {
            Relooper one = new Relooper();
            one.way(0, GO, b, 0);
            one.way(b, TEST, b, 0);
            checks.due("0 and " + b, one.loops(), 1 | 1 << b);
        }
    }

    private static void atLeastTwo() {
        checks.due("no edge", new Relooper().merges(), 0);
        Relooper x = chain(7);
        checks.due("one edge to each", x.merges(), 0);
        x.way(7, GO, 7, 0);
        checks.due("one forward edge and one back edge", x.merges(), 0);
        x.way(7, TEST, 6, 6);
        x.way(6, TEST, 7, 6);
        checks.due("one forward edge and two back edges", x.merges(), 0);
        Relooper island = chain(1);
        island.way(2, GO, 1, 0);
        island.way(3, TEST, 1, 1);
        checks.due("one edge and two from blocks that are not live", island.merges(), 0);
        island.way(0, TEST, 1, 2);
        checks.due("two edges", island.merges(), 2);
        Relooper many = chain(7);
        for (int b = 0; b < 7; b++) {
            many.way(b, TEST, b + 1, 7);
            checks.due("edges to 7: " + Math.min(b + 2, 7), many.merges(), 128);
        }
        for (int b = 0; b < 6; b++) {
            many.way(b, TEST, b + 1, b + 2);
        }
        checks.due("two edges to all but the first two", many.merges(), 252);
        many.way(7, TEST, 1, 0);
        checks.due("in what is not regular, to all but 0", many.merges(), 254);
    }

    // ---- Promise 9

    private static void runBegins() {
        for (int value : new int[] {MIN, -1, 0, 1, MAX}) {
            Relooper x = new Relooper();
            x.run(value, ~value);
            checks.due("register 0", x.register(0), value);
            checks.due("register 1", x.register(1), ~value);
            checks.due("register 2", x.register(2), 0);
            x.act(0, MOVE + 2, 0);
            x.run(value, 1);
            x.act(0, NOTHING, 0);
            x.run(2, 3);
            checks.due("register 2 at 0 again", x.register(2), 0);
        }
        Relooper tired = chain(7);
        tired.way(7, GO, 7, 0);
        tired.run(0, 0);
        tired.way(0, STOP, 0, 0);
        tired.run(0, 0);
        checks.due("from block 0, wherever the run before ended", tired.visits(0), 1);
        checks.due("from block 0, wherever the run before ended", tired.visits(7), 0);
    }

    /** Comes to carry out so many blocks, 3 or more, if nothing ends it; the last puts out and STOPs. */
    private static Relooper runOf(int blocks) {
        Relooper x = new Relooper();
        x.way(0, GO, 1, 0);
        x.act(1, ADD, -1);
        x.way(1, TEST, 1, 2);
        x.act(2, PUT + 1, 0);
        int answer = x.run(blocks - 2, 6);
        checks.due("run of " + blocks, answer, blocks > 80 ? Relooper.TIRED : Relooper.STOPPED);
        checks.due("outcome of " + blocks, x.outcome(), answer);
        return x;
    }

    private static void runTires() {
        for (int blocks : new int[] {81, 82, 160, MAX}) {
            Relooper x = runOf(blocks);
            checks.due("carried of " + blocks, x.carried(), 80);
            checks.due("visits 1 of " + blocks, x.visits(1), 79);
            checks.due("visits 2 of " + blocks, x.visits(2), 0);
            checks.due("outs of " + blocks, x.outs(), 0);
            checks.due("register 0 of " + blocks, x.register(0), blocks - 81);
        }
        Relooper ever = new Relooper();
        ever.act(0, ADD + 1, 1);
        ever.way(0, GO, 0, 0);
        checks.due("a run without end", ever.run(0, 0), Relooper.TIRED);
        checks.due("a run without end: the 80th action, no 81st", ever.register(1), 80);
        Relooper x = countdown();
        checks.due("the 80th block GOes on", x.run(40, 0), Relooper.TIRED);
        checks.due("the 80th block GOes on: its action", x.register(0), 0);
        checks.due("the 80th block GOes on: outs", x.outs(), 40);
        checks.due("it tires anew", x.run(40, 0), Relooper.TIRED);
        checks.due("it tires no more", x.run(0, 0), Relooper.STOPPED);
    }

    private static void the80thStops() {
        for (int blocks : new int[] {3, 4, 78, 79, 80}) {
            Relooper x = runOf(blocks);
            checks.due("carried of " + blocks, x.carried(), blocks);
            checks.due("visits 2 of " + blocks, x.visits(2), 1);
            checks.due("the last action of " + blocks, x.lastOut(0), 6);
        }
        Relooper x = countdown();
        checks.due("another 80th block that STOPs", x.run(39, 0), Relooper.STOPPED);
        checks.due("another 80th block that STOPs: carried", x.carried(), 80);
    }

    private static void runRefuses() {
        Relooper x = irregular();
        String none = lastRun(x);
        String shape = shape(x);
        checks.due("before any run", x.run(5, 6), Relooper.BAD);
        checks.due("before any run, changing nothing", lastRun(x), none);
        checks.due("changing nothing of the program", shape(x), shape);
        for (int first : new int[] {2, 40}) {
            Relooper later = countdown();
            String program = program(later);
            later.run(first, 5);
            String before = lastRun(later);
            later.way(2, TEST, 3, 4);
            later.way(3, GO, 4, 0);
            later.way(4, GO, 3, 0);
            checks.due("after a run", later.run(50, 60), Relooper.BAD);
            checks.due("once more", later.run(-1, 0), Relooper.BAD);
            checks.due("after a run, changing nothing", lastRun(later), before);
            later.way(2, STOP, 0, 0);
            checks.due("the program is as it was", program(later), program);
        }
    }

    // ---- Promises 10 to 16

    private static void outcomes() {
        Relooper x = irregular();
        checks.due("before any run", x.outcome(), Relooper.NONE);
        x.run(1, 1);
        checks.due("BAD is no outcome", x.outcome(), Relooper.NONE);
        x.way(2, GO, 0, 0);
        checks.due("no run yet", x.outcome(), Relooper.NONE);
        x.run(1, 1);
        checks.due("TIRED", x.outcome(), Relooper.TIRED);
        x.way(2, STOP, 0, 0);
        x.run(1, 1);
        checks.due("STOPPED", x.outcome(), Relooper.STOPPED);
    }

    private static void registersWithoutRun() {
        Relooper x = irregular();
        x.act(0, ADD, 5);
        for (int r = 0; r < 3; r++) {
            checks.due("register " + r, x.register(r), 0);
        }
        x.run(7, 8);
        for (int r = 0; r < 3; r++) {
            checks.due("register " + r + " after a run refused", x.register(r), 0);
        }
    }

    private static void registersOfOthers() {
        Relooper x = new Relooper();
        for (int r : NOT_REGISTERS) {
            checks.due("register " + r + " before any run", x.register(r), 0);
        }
        x.act(0, MOVE + 2, 1);
        x.run(MIN, MAX);
        for (int r : NOT_REGISTERS) {
            checks.due("register " + r, x.register(r), 0);
        }
        checks.due("register 0", x.register(0), MIN);
        checks.due("register 2", x.register(2), MAX);
    }

    /** Puts out n, n - 1, .. 1 when run with an n from 1 to 39, none when n is below 1. */
    private static Relooper putsDown() {
        Relooper x = new Relooper();
        x.way(0, TEST, 1, 3);
        x.act(1, PUT, 0);
        x.way(1, GO, 2, 0);
        x.act(2, ADD, -1);
        x.way(2, TEST, 1, 3);
        return x;
    }

    private static void outsNoneAndAll() {
        Relooper x = putsDown();
        checks.due("before any run", x.outs(), 0);
        for (int n : new int[] {7, 0, 1, 8, 9, 38}) {
            x.run(n, 0);
            checks.due("outs of " + n, x.outs(), n);
        }
        Relooper all = new Relooper();
        all.act(0, PUT, 0);
        all.way(0, GO, 1, 0);
        all.act(1, PUT + 1, 0);
        all.way(1, GO, 0, 0);
        all.run(3, 4);
        checks.due("every block puts out", all.outs(), 80);
        for (int k = 0; k < 8; k++) {
            checks.due("lastOut " + k + " of 80", all.lastOut(k), k % 2 == 0 ? 4 : 3);
        }
        all.act(0, NOTHING, 0);
        all.act(1, NOTHING, 0);
        all.run(3, 4);
        checks.due("no block puts out", all.outs(), 0);
    }

    private static void lastOutFirstAndLast() {
        Relooper x = putsDown();
        for (int n : new int[] {8, 9, 38}) {
            x.run(n, 0);
            for (int k = 0; k < 8; k++) {
                checks.due("lastOut " + k + " of " + n, x.lastOut(k), k + 1);
            }
        }
        x.run(100, 0);
        for (int k = 0; k < 8; k++) {
            // Block 0 comes first, so the 80th block is the 40th that puts out.
            checks.due("lastOut " + k + " of a run that tired", x.lastOut(k), 61 + k);
        }
        Relooper edges = putsDown();
        edges.act(2, ADD, MIN);
        edges.run(MAX, 0);
        checks.due("the greatest number", edges.lastOut(0), MAX);
        edges.act(0, MOVE, 1);
        edges.way(0, GO, 1, 0);
        edges.run(0, MIN);
        checks.due("the least number", edges.lastOut(0), MIN);
    }

    private static void lastOutNotSoMany() {
        Relooper x = putsDown();
        for (int k = 0; k < 8; k++) {
            checks.due("lastOut " + k + " before any run", x.lastOut(k), 0);
        }
        // From many to few: the numbers of a run before must not be told.
        x.act(0, PUT, 0);
        x.way(1, GO, 1, 0);
        x.run(5, 0);
        checks.due("as many as can be put out", x.outs(), 80);
        x.act(0, NOTHING, 0);
        x.way(1, GO, 2, 0);
        for (int n : new int[] {38, 7, 6, 1, 0}) {
            x.run(n, 0);
            for (int k = 0; k < 8; k++) {
                checks.due("lastOut " + k + " of " + n, x.lastOut(k), k < n ? k + 1 : 0);
            }
        }
    }

    private static void lastOutOfOthers() {
        Relooper x = putsDown();
        for (int n : new int[] {0, 1, 8, 9, 38, 100}) {
            x.run(n, 0);
            for (int k : new int[] {-1, -2, 8, 9, 31, 32, 37, 39, 40, 79, 80, 81, 256, 65536, MIN, MAX}) {
                checks.due("lastOut " + k + " of " + n, x.lastOut(k), 0);
            }
        }
    }

    private static void carriedNoneAndAll() {
        Relooper x = irregular();
        checks.due("before any run", x.carried(), 0);
        x.run(0, 0);
        checks.due("after a run refused", x.carried(), 0);
        for (int last = 7; last >= 0; last--) {
            Relooper row = chain(last);
            row.run(0, 0);
            checks.due("a row of " + (last + 1), row.carried(), last + 1);
        }
        checks.due("79", runOf(79).carried(), 79);
        checks.due("80", runOf(80).carried(), 80);
        checks.due("81", runOf(81).carried(), 80);
    }

    private static void visitsNoneAndAll() {
        Relooper x = irregular();
        for (int b = 0; b < 8; b++) {
            checks.due("visits " + b + " before any run", x.visits(b), 0);
        }
        x.run(0, 0);
        for (int b = 0; b < 8; b++) {
            checks.due("visits " + b + " after a run refused", x.visits(b), 0);
        }
        x.way(0, GO, 0, 0);
        x.run(0, 0);
        checks.due("all visits are to 0", x.visits(0), 80);
        x.way(0, GO, 7, 0);
        x.way(7, GO, 7, 0);
        x.run(0, 0);
        checks.due("visits 0 anew", x.visits(0), 1);
        checks.due("all but one are to 7", x.visits(7), 79);
    }

    private static void visitsOfOthers() {
        Relooper x = chain(7);
        for (int b : NOT_BLOCKS) {
            checks.due("visits " + b + " before any run", x.visits(b), 0);
        }
        x.run(0, 0);
        for (int b : NOT_BLOCKS) {
            checks.due("visits " + b, x.visits(b), 0);
        }
        checks.due("visits 0", x.visits(0), 1);
        checks.due("visits 7", x.visits(7), 1);
    }

    private static void zeroIsLive() {
        Relooper x = new Relooper();
        checks.due("new", x.live(), 1);
        x.way(1, GO, 2, 0);
        checks.due("beside ways on from others", x.live(), 1);
        x.way(0, GO, 1, 0);
        checks.due("no way on names it", x.live(), 7);
        x.way(2, GO, 0, 0);
        checks.due("a way on names it", x.live(), 7);
        x.way(0, STOP, 0, 0);
        checks.due("it STOPs", x.live(), 1);
        checks.due("in what is not regular", irregular().live(), 7);
    }
}
