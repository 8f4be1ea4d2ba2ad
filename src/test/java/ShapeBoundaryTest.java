/** The sentences of promises 4 to 8 and 16 that name a boundary case, each with a test of its own. */
public final class ShapeBoundaryTest extends Sentences {
    public static void main(String[] args) {
        sentence("The live blocks: bit b for block b.", ShapeBoundaryTest::liveBits);
        sentence("The blocks that dominate block b: bit h for block h", ShapeBoundaryTest::dominatorBits);
        sentence("0 when b is not live", ShapeBoundaryTest::noDominatorsWhenNotLive);
        sentence("0 when b is not live or not 0 .. 7.", ShapeBoundaryTest::noDominatorsOfOthers);
        sentence("Whether the program is regular.", ShapeBoundaryTest::regularEmptyAndFull);
        sentence("The live blocks that a back edge leads to: bit b for block b.", ShapeBoundaryTest::loopsNoneAndAll);
        sentence("The live blocks that at least two forward edges lead to: bit b for block b.",
                ShapeBoundaryTest::atLeastTwo);
        sentence("Block 0 is live always (live() has its bit also when no way on names it).",
                ShapeBoundaryTest::zeroIsLive);
        checks.end();
    }

    private static void liveBits() {
        for (int b = 1; b < 8; b++) {
            Relooper x = new Relooper();
            x.way(0, GO, b, 0);
            checks.due("0 and " + b, x.live(), 1 | 1 << b);
            checks.due("up to " + b, chain(b).live(), (1 << b + 1) - 1);
        }
        checks.due("none but 0", new Relooper().live(), 1);
        checks.due("all", busy().live(), 255);
    }

    private static void dominatorBits() {
        for (int b = 0; b < 8; b++) {
            checks.due("all before " + b + " in a row", chain(7).dominators(b), (1 << b + 1) - 1);
            Relooper x = new Relooper();
            x.way(0, GO, b, 0);
            checks.due("0 and " + b, x.dominators(b), 1 | 1 << b);
        }
        Relooper apart = new Relooper();
        apart.way(0, TEST, 1, 2);
        apart.way(1, GO, 7, 0);
        apart.way(2, GO, 7, 0);
        checks.due("neither of two ways", apart.dominators(7), 129);
    }

    private static void noDominatorsWhenNotLive() {
        Relooper x = chain(3);
        x.way(4, GO, 4, 0);
        x.way(5, GO, 6, 0);
        x.way(6, TEST, 3, 0);
        for (int b = 4; b < 8; b++) {
            checks.due("dominators of " + b, x.dominators(b), 0);
        }
        checks.due("live ones that they name", x.dominators(3), 15);
        x.way(1, STOP, 2, 2);
        checks.due("no longer live", x.dominators(2), 0);
        checks.due("no longer live", x.dominators(3), 0);
        checks.due("still live", x.dominators(1), 3);
        x.way(1, GO, 6, 0);
        checks.due("live now", x.dominators(6), 67);
        checks.due("live again", x.dominators(3), 75);
        checks.due("not live yet", x.dominators(5), 0);
    }

    private static void noDominatorsOfOthers() {
        for (Relooper x : new Relooper[] {new Relooper(), chain(7), busy()}) {
            for (int b : NOT_BLOCKS) {
                checks.due("dominators of " + b, x.dominators(b), 0);
            }
        }
        checks.due("dominators of the first", chain(7).dominators(0), 1);
        checks.due("dominators of the last", chain(7).dominators(7), 255);
    }

    private static void regularEmptyAndFull() {
        checks.due("no edge", new Relooper().regular(), true);
        checks.due("eight blocks", busy().regular(), true);
        Relooper x = new Relooper();
        for (int b = 0; b < 8; b++) {
            x.way(b, TEST, b, (b + 1) % 8);
        }
        checks.due("a back edge to each block", x.regular(), true);
        for (int b = 0; b < 8; b++) {
            x.way(b, TEST, (b + 1) % 8, (b + 2) % 8);
        }
        // From 7 it goes on with 1, which a way to 7 can leave out: 1, 2, .. 7, 1 is a ring.
        checks.due("sixteen edges with a ring", x.regular(), false);
        x.way(7, TEST, 0, 0);
        checks.due("fifteen edges, from 6 and 7 to 0", x.regular(), true);
    }

    private static void loopsNoneAndAll() {
        checks.due("none", chain(7).loops(), 0);
        Relooper all = new Relooper();
        for (int b = 0; b < 7; b++) {
            all.way(b, TEST, b, b + 1);
        }
        checks.due("all but the last", all.loops(), 127);
        all.way(7, GO, 7, 0);
        checks.due("all", all.loops(), 255);
        all.way(6, STOP, 6, 7);
        checks.due("none that is not live", all.loops(), 63);
        for (int b = 1; b < 8; b++) {
            Relooper one = new Relooper();
            one.way(0, GO, b, 0);
            one.way(b, TEST, b, 0);
            checks.due("0 and " + b, one.loops(), 1 | 1 << b);
        }
    }

    private static void atLeastTwo() {
        checks.due("no edge", new Relooper().merges(), 0);
        Relooper x = chain(7);
        checks.due("one edge to each", x.merges(), 0);
        x.way(7, GO, 7, 0);
        checks.due("one forward edge and one back edge", x.merges(), 0);
        x.way(7, TEST, 6, 6);
        x.way(6, TEST, 7, 6);
        checks.due("one forward edge and two back edges", x.merges(), 0);
        Relooper island = chain(1);
        island.way(2, GO, 1, 0);
        island.way(3, TEST, 1, 1);
        checks.due("one edge and two from blocks that are not live", island.merges(), 0);
        island.way(0, TEST, 1, 2);
        checks.due("two edges", island.merges(), 2);
        Relooper many = chain(7);
        for (int b = 0; b < 7; b++) {
            many.way(b, TEST, b + 1, 7);
            checks.due("edges to 7: " + Math.min(b + 2, 7), many.merges(), 128);
        }
        for (int b = 0; b < 6; b++) {
            many.way(b, TEST, b + 1, b + 2);
        }
        checks.due("two edges to all but the first two", many.merges(), 252);
        many.way(7, TEST, 1, 0);
        checks.due("in what is not regular, to all but 0", many.merges(), 254);
    }

    private static void zeroIsLive() {
        Relooper x = new Relooper();
        checks.due("new", x.live(), 1);
        x.way(1, GO, 2, 0);
        checks.due("beside ways on from others", x.live(), 1);
        x.way(0, GO, 1, 0);
        checks.due("no way on names it", x.live(), 7);
        x.way(2, GO, 0, 0);
        checks.due("a way on names it", x.live(), 7);
        x.way(0, STOP, 0, 0);
        checks.due("it STOPs", x.live(), 1);
        checks.due("in what is not regular", irregular().live(), 7);
    }
}
