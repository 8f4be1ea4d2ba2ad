import java.util.List;
import java.util.function.ToLongFunction;

/** The sentences of "What it is", "Terms" and promise 1 that name a boundary case, each with a test of its own. */
public final class TermsBoundaryTest extends Sentences {
    public static void main(String[] args) {
        sentence("An object is used for at most 512 calls after it has been made",
                TermsBoundaryTest::the512thCallAnswers);
        sentence("There are BLOCKS 0 .. 7 and registers 0 .. 2 (ints).", TermsBoundaryTest::firstAndLastOfAll);
        sentence("action 0 NOTHING; 1 + r ADD n (r is 0 .. 2): register r becomes register r + n; "
                + "4 + r PUT: register r is put out;",
                TermsBoundaryTest::firstAndLastKinds);
        sentence("(sums wrap)", TermsBoundaryTest::sumsWrap);
        sentence("MOVE n: register r becomes register n (n is 0 .. 2)", TermsBoundaryTest::movesFromEachToEach);
        sentence("goes on with block a when register r is above 0, else with block b",
                TermsBoundaryTest::testsAboveZero);
        sentence("a block that was never set has NOTHING and STOP", TermsBoundaryTest::neverSet);
        sentence("Blocks that can be come to from block 0 along ways on are LIVE.", TermsBoundaryTest::liveNoneAndAll);
        sentence("(h may be u or 0)", TermsBoundaryTest::dominatedByItselfAndZero);
        sentence("an edge (from a block to one that its way on names) from u to h is a BACK edge when h dominates u",
                TermsBoundaryTest::shortestAndLongestBackEdges);
        sentence("The program is REGULAR when there is no ring of forward edges.",
                TermsBoundaryTest::shortestAndLongestRings);
        sentence("Two ways on of one TEST that name the same block are one edge.", TermsBoundaryTest::oneEdge);
        sentence("All blocks NOTHING and STOP; no run.", TermsBoundaryTest::newObject);
        checks.end();
    }

    private static void the512thCallAnswers() {
        List<ToLongFunction<Relooper>> calls = List.of(
                x -> x.act(0, ADD, 3) ? 1 : 0, x -> x.act(8, ADD, 3) ? 1 : 0,
                x -> x.way(7, STOP, 0, 0) ? 1 : 0, x -> x.way(0, GO, 8, 0) ? 1 : 0,
                Relooper::live, x -> x.dominators(7), x -> x.regular() ? 1 : 0, Relooper::loops,
                Relooper::merges, x -> x.run(2, 5), Relooper::outcome, x -> x.register(0),
                Relooper::outs, x -> x.lastOut(1), Relooper::carried, x -> x.visits(3));
        for (int c = 0; c < calls.size(); c++) {
            Relooper fresh = busy();
            fresh.run(2, 5);
            Relooper used = busy();
            callUntilTheLast(used);
            checks.due("512th call, number " + c, calls.get(c).applyAsLong(used), calls.get(c).applyAsLong(fresh));
        }
    }

    /** busy() is 16 calls; with these there are 511, and the program is again that of busy(). */
    private static void callUntilTheLast(Relooper x) {
        for (int i = 0; i < 98; i++) {
            x.way(7, TEST, 1, 2);
            x.run(9, i);
            x.way(7, GO, 0, i);
            x.run(i, -i);
            x.way(7, STOP, 0, 0);
        }
        x.act(0, ADD, 4);
        x.act(0, ADD, 3);
        x.live();
        x.visits(8);
        x.run(2, 5);
    }

    private static void firstAndLastOfAll() {
        for (int b : new int[] {0, 7}) {
            Relooper x = chain(b);
            x.act(b, ADD + 2, 11);
            x.run(0, 0);
            checks.due("the action of block " + b, x.register(2), 11);
            checks.due("visits " + b, x.visits(b), 1);
        }
        for (int r : new int[] {0, 2}) {
            for (int value : new int[] {MIN, -1, 0, 1, MAX}) {
                Relooper x = new Relooper();
                x.act(0, MOVE + 2, 0);
                x.way(0, GO, 7, 0);
                x.act(7, PUT + r, 0);
                x.run(value, 5);
                checks.due("put out of register " + r, x.lastOut(0), value);
                checks.due("register " + r, x.register(r), value);
            }
        }
    }

    /** Each kind at the end of a row of kinds is of its own sort, not of its neighbour's. */
    private static void firstAndLastKinds() {
        String[] due = {
            "10 20 0 0", "12 20 0 0", "10 22 0 0", "10 20 2 0", "10 20 0 1:10", "10 20 0 1:20", "10 20 0 1:0",
            "0 20 0 0", "10 0 0 0", "10 20 0 0"};
        for (int kind = 0; kind <= 9; kind++) {
            Relooper x = new Relooper();
            x.act(0, kind, 2);
            x.run(10, 20);
            String put = x.outs() == 0 ? "0" : x.outs() + ":" + x.lastOut(0);
            String told = x.register(0) + " " + x.register(1) + " " + x.register(2) + " " + put;
            checks.due("kind " + kind + " with n 2", told, due[kind]);
        }
        Relooper x = new Relooper();
        x.act(0, MOVE + 2, 0);
        x.run(10, 20);
        checks.due("the last kind", x.register(2), 10);
    }

    private static void sumsWrap() {
        int[][] sums = {
            {MAX, 1, MIN}, {MIN, -1, MAX}, {MAX, MAX, -2}, {MIN, MIN, 0}, {-1, MIN, MAX}, {1, MAX, MIN},
            {MAX, 0, MAX}, {MIN, 0, MIN}, {MIN, MAX, -1}};
        for (int r = 0; r < 3; r++) {
            for (int[] sum : sums) {
                Relooper x = new Relooper();
                x.act(0, MOVE + r, 0);
                x.way(0, GO, 1, 0);
                x.act(1, ADD + r, sum[1]);
                x.way(1, TEST + r, 2, 3);
                x.run(sum[0], 0);
                checks.due(sum[0] + " + " + sum[1] + " in register " + r, x.register(r), sum[2]);
                checks.due("the wrapped sum is what a TEST looks at", x.visits(2), sum[2] > 0 ? 1 : 0);
            }
        }
        Relooper again = new Relooper();
        again.act(0, ADD, 1 << 30);
        again.way(0, GO, 0, 0);
        again.run(7, 0);
        checks.due("80 times 2 to the 30th wraps 20 times", again.register(0), 7);
    }

    private static void movesFromEachToEach() {
        for (int r = 0; r < 3; r++) {
            for (int n = 0; n < 3; n++) {
                Relooper x = new Relooper();
                x.act(0, ADD + 2, 30);
                x.way(0, GO, 1, 0);
                checks.due("act MOVE", x.act(1, MOVE + r, n), true);
                x.run(10, 20);
                for (int s = 0; s < 3; s++) {
                    int from = s == r ? n : s;
                    checks.due("register " + s + " after " + n + " to " + r, x.register(s), 10 * (from + 1));
                }
            }
        }
    }

    private static void testsAboveZero() {
        for (int r = 0; r < 3; r++) {
            for (int value : new int[] {MIN, MIN + 1, -2, -1, 0, 1, 2, MAX - 1, MAX}) {
                Relooper x = new Relooper();
                // The other two registers would send the run the other way.
                int other = value > 0 ? 0 : 1;
                x.act(0, r == 2 ? MOVE + 2 : ADD + 2, r == 2 ? 0 : other);
                x.way(0, GO, 1, 0);
                x.act(1, r == 2 ? MOVE : NOTHING, 1);
                x.way(1, TEST + r, 6, 7);
                x.run(r == 1 ? other : value, r == 1 ? value : other);
                checks.due("register " + r + " of " + value + " to a", x.visits(6), value > 0 ? 1 : 0);
                checks.due("register " + r + " of " + value + " to b", x.visits(7), value > 0 ? 0 : 1);
            }
        }
    }

    private static void neverSet() {
        for (int b = 1; b < 8; b++) {
            Relooper x = new Relooper();
            x.way(0, GO, b, 0);
            checks.due("run to " + b, x.run(7, -8), Relooper.STOPPED);
            checks.due("run to " + b, lastRun(x),
                    "1 2 registers 7 -8 0 visits 1" + visitedOnce(b) + " outs 0:" + " 0".repeat(8));
            x.act(b, ADD, 1);
            checks.due("run to " + b + " with an action", x.run(7, -8), Relooper.STOPPED);
            checks.due("a block with an action alone has STOP", x.carried(), 2);
            Relooper wayAlone = new Relooper();
            wayAlone.way(0, GO, b, 0);
            wayAlone.way(b, TEST, b % 7 + 1, 0);
            wayAlone.run(7, -8);
            checks.due("a block with a way on alone has NOTHING", wayAlone.register(0), 7);
            checks.due("a block with a way on alone has NOTHING", wayAlone.outs(), 0);
        }
    }

    /** The visits of blocks 1 .. 7 when only b was come to. */
    private static String visitedOnce(int b) {
        return " 0".repeat(b - 1) + " 1" + " 0".repeat(7 - b);
    }

    private static void liveNoneAndAll() {
        Relooper none = new Relooper();
        checks.due("no way on", none.live(), 1);
        for (int b = 1; b < 8; b++) {
            none.way(b, TEST, b % 7 + 1, 0);
        }
        checks.due("ways on from all blocks but 0", none.live(), 1);
        checks.due("all in a row", chain(7).live(), 255);
        Relooper down = new Relooper();
        down.way(0, GO, 7, 0);
        for (int b = 7; b > 1; b--) {
            down.way(b, GO, b - 1, 0);
        }
        checks.due("all in a row downwards", down.live(), 255);
        down.way(2, STOP, 1, 1);
        checks.due("all but the last", down.live(), 253);
        down.way(7, STOP, 6, 6);
        checks.due("cut behind the second", down.live(), 129);
        Relooper spread = new Relooper();
        for (int b = 0; b < 3; b++) {
            spread.way(b, TEST, 2 * b + 1, 2 * b + 2);
        }
        spread.way(3, GO, 7, 0);
        checks.due("all by TESTs", spread.live(), 255);
        spread.way(2, GO, 6, 5);
        checks.due("GO names x alone", spread.live(), 255 - 32);
    }

    private static void dominatedByItselfAndZero() {
        for (Relooper x : new Relooper[] {new Relooper(), chain(7), busy(), irregular()}) {
            for (int b = 0; b < 8; b++) {
                boolean live = (x.live() >> b & 1) == 1;
                checks.due(b + " and itself", x.dominators(b) >> b & 1, live ? 1 : 0);
                checks.due(b + " and 0", x.dominators(b) & 1, live ? 1 : 0);
            }
        }
        checks.due("0 by itself alone", busy().dominators(0), 1);
        Relooper two = irregular();
        checks.due("by itself and 0 alone", two.dominators(1), 3);
        checks.due("by itself and 0 alone", two.dominators(2), 5);
        checks.due("by all eight", chain(7).dominators(7), 255);
    }

    private static void shortestAndLongestBackEdges() {
        for (int h = 0; h < 8; h++) {
            Relooper x = chain(7);
            x.way(7, GO, h, 0);
            checks.due("from 7 to " + h + " is a back edge", x.loops(), 1 << h);
            checks.due("from 7 to " + h + " is no forward edge", x.merges(), 0);
            Relooper self = chain(h);
            self.way(h, GO, h, 0);
            checks.due("from " + h + " to itself is a back edge", self.loops(), 1 << h);
        }
        Relooper past = chain(7);
        past.way(0, TEST, 1, 2);
        past.way(7, GO, 1, 0);
        checks.due("to a block that can be gone past is a forward edge", past.loops(), 0);
        checks.due("to a block that can be gone past is a forward edge", past.merges(), 6);
    }

    private static void shortestAndLongestRings() {
        for (int last = 1; last < 8; last++) {
            Relooper x = chain(last);
            x.way(last, GO, 1, 0);
            checks.due("a ring of " + last + " with one way in", x.regular(), true);
            x.way(0, TEST, last, 1);
            checks.due("a ring of " + last + " with two ways in", x.regular(), last == 1);
            x.way(last, GO, 0, 0);
            checks.due("a ring through block 0", x.regular(), true);
        }
        Relooper last = new Relooper();
        last.way(0, TEST, 6, 7);
        last.way(6, GO, 7, 0);
        last.way(7, GO, 6, 0);
        checks.due("a ring of the last two", last.regular(), false);
        last.way(0, STOP, 6, 7);
        checks.due("a ring that is not live", last.regular(), true);
        last.way(0, GO, 7, 6);
        checks.due("a ring with one way in", last.regular(), true);
        Relooper end = chain(5);
        end.way(5, TEST, 6, 7);
        end.way(6, GO, 7, 0);
        end.way(7, TEST, 6, 0);
        checks.due("a ring at the end of a chain", end.regular(), false);
    }

    private static void oneEdge() {
        for (int r = 0; r < 3; r++) {
            Relooper x = new Relooper();
            x.way(0, TEST + r, 7, 7);
            checks.due("one forward edge makes no merge", x.merges(), 0);
            checks.due("and the program is regular", x.regular(), true);
            for (int value = 0; value <= 1; value++) {
                checks.due("run", x.run(value, value), Relooper.STOPPED);
                checks.due("carried", x.carried(), 2);
                checks.due("visits", x.visits(7), 1);
            }
            x.way(7, TEST + r, 7, 7);
            checks.due("one back edge beside one forward edge makes no merge", x.merges(), 0);
            x.way(0, TEST + r, 1, 2);
            x.way(1, TEST + r, 2, 2);
            checks.due("it counts once beside another", x.merges(), 4);
        }
    }

    private static void newObject() {
        Relooper x = new Relooper();
        checks.due("shape", shape(x), "1 true 0 0 dominators 1 0 0 0 0 0 0 0");
        checks.due("no run", lastRun(x), "0 0 registers 0 0 0 visits 0 0 0 0 0 0 0 0 outs 0:" + " 0".repeat(8));
        checks.due("run", x.run(3, -4), Relooper.STOPPED);
        checks.due("block 0 has NOTHING and STOP", lastRun(x),
                "1 1 registers 3 -4 0 visits 1 0 0 0 0 0 0 0 outs 0:" + " 0".repeat(8));
    }
}
