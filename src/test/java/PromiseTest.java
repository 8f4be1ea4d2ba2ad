/** One method for each promise of the document, with ordinary inputs; the boundary tests have the edges. */
public final class PromiseTest extends Examples {
    private static final Checks checks = new Checks();

    public static void main(String[] args) {
        promise1NewObject();
        promise2Act();
        promise3Way();
        promise4Live();
        promise5Dominators();
        promise6Regular();
        promise7Loops();
        promise8Merges();
        promise9Run();
        promise9RunThroughMerges(3, 7);
        promise9RunThroughMerges(7, 3);
        promise10Outcome();
        promise11Register();
        promise12Outs();
        promise13LastOut();
        promise14Carried();
        promise15Visits();
        promise16BlockZeroIsLive();
        checks.end();
    }

    private static void promise1NewObject() {
        Relooper x = new Relooper();
        String shape = shape(x);
        String noRun = lastRun(x);
        Relooper other = busy();
        other.run(1, 1);
        checks.due("the shape beside another object", shape(x), shape);
        checks.due("no run beside another object", lastRun(x), noRun);
        checks.due("a new object is as another", program(x), program(new Relooper()));
    }

    private static void promise2Act() {
        for (int b = 0; b < 8; b++) {
            for (int r = 0; r < 3; r++) {
                Relooper x = chain(b);
                checks.due("act ADD", x.act(b, ADD + r, -30), true);
                x.run(100, 200);
                for (int s = 0; s < 3; s++) {
                    int before = s == 0 ? 100 : s == 1 ? 200 : 0;
                    checks.due("ADD to " + r + " in " + s, x.register(s), before - (s == r ? 30 : 0));
                }
                checks.due("act PUT", x.act(b, PUT + r, 99), true);
                x.run(100, 200);
                checks.due("PUT outs", x.outs(), 1);
                checks.due("PUT " + r, x.lastOut(0), r == 0 ? 100 : r == 1 ? 200 : 0);
                for (int n = 0; n < 3; n++) {
                    checks.due("act MOVE", x.act(b, MOVE + r, n), true);
                    x.run(100, 200);
                    int moved = n == 0 ? 100 : n == 1 ? 200 : 0;
                    checks.due("MOVE " + n + " to " + r, x.register(r), moved);
                    checks.due("MOVE outs", x.outs(), 0);
                }
                checks.due("act NOTHING", x.act(b, NOTHING, 5), true);
                x.run(100, 200);
                checks.due("NOTHING register 0", x.register(0), 100);
                checks.due("NOTHING register 1", x.register(1), 200);
                checks.due("NOTHING register 2", x.register(2), 0);
                checks.due("NOTHING outs", x.outs(), 0);
            }
        }
    }

    private static void promise3Way() {
        for (int r = 0; r < 3; r++) {
            for (int value : new int[] {-20, 20}) {
                Relooper x = new Relooper();
                checks.due("way GO", x.way(0, GO, 1, 0), true);
                x.act(0, MOVE + 2, 0);
                checks.due("way TEST", x.way(1, TEST + r, 6, 7), true);
                x.run(value, value);
                checks.due("TEST of " + value + " to 6", x.visits(6), value > 0 ? 1 : 0);
                checks.due("TEST of " + value + " to 7", x.visits(7), value > 0 ? 0 : 1);
                checks.due("way STOP", x.way(1, STOP, 0, 0), true);
                x.run(value, value);
                checks.due("STOP again", x.carried(), 2);
            }
        }
        Relooper other = new Relooper();
        other.way(0, TEST + 1, 1, 2);
        other.run(1, 0);
        checks.due("TEST looks at its own register", other.visits(2), 1);
        other.way(0, TEST + 2, 1, 2);
        other.run(1, 1);
        checks.due("register 2 begins at 0", other.visits(2), 1);
    }

    private static void promise4Live() {
        Relooper island = new Relooper();
        island.way(3, GO, 4, 0);
        island.way(4, TEST, 3, 0);
        checks.due("an island is not live", island.live(), 1);
        island.way(0, TEST, 5, 4);
        checks.due("both ways of a TEST are live", island.live(), 57);
        island.way(0, GO, 5, 4);
        checks.due("GO names x alone", island.live(), 33);
    }

    private static void promise5Dominators() {
        Relooper x = new Relooper();
        x.way(0, TEST, 1, 2);
        x.way(1, GO, 3, 0);
        x.way(2, GO, 3, 0);
        x.way(3, TEST, 4, 0);
        checks.due("dominators 0", x.dominators(0), 1);
        checks.due("dominators 1", x.dominators(1), 3);
        checks.due("dominators 2", x.dominators(2), 5);
        checks.due("dominators 3", x.dominators(3), 9);
        checks.due("dominators 4", x.dominators(4), 25);
        x.way(5, GO, 4, 0);
        checks.due("ways from one not live don't count", x.dominators(4), 25);
        x.way(2, STOP, 3, 0);
        checks.due("one way fewer", x.dominators(4), 27);
    }

    private static void promise6Regular() {
        Relooper x = new Relooper();
        x.way(0, TEST, 1, 2);
        x.way(1, GO, 3, 0);
        x.way(3, GO, 2, 0);
        x.way(2, TEST, 4, 1);
        checks.due("a ring of three with two ways in", x.regular(), false);
        x.way(0, GO, 1, 0);
        checks.due("a ring with one way in", x.regular(), true);
        x.way(0, STOP, 0, 0);
        x.way(5, TEST, 6, 7);
        x.way(6, GO, 7, 0);
        x.way(7, GO, 6, 0);
        checks.due("a ring that is not live", x.regular(), true);
        x.way(0, GO, 5, 0);
        checks.due("the same ring, live", x.regular(), false);
        Relooper self = new Relooper();
        self.way(0, TEST, 0, 1);
        self.way(1, TEST, 1, 0);
        checks.due("rings of back edges", self.regular(), true);
        Relooper behind = new Relooper();
        behind.way(0, TEST, 6, 7);
        behind.way(7, TEST, 6, 1);
        behind.way(6, GO, 7, 0);
        checks.due("a ring before other blocks", behind.regular(), false);
    }

    private static void promise7Loops() {
        Relooper x = new Relooper();
        x.way(0, TEST, 0, 1);
        checks.due("a block that goes on with itself", x.loops(), 1);
        x.way(1, GO, 2, 0);
        x.way(2, TEST, 1, 3);
        checks.due("two loops", x.loops(), 3);
        x.way(3, TEST, 1, 2);
        checks.due("back edges from inside", x.loops(), 7);
        x.way(6, GO, 6, 0);
        checks.due("a loop that is not live", x.loops(), 7);
        x.way(3, GO, 7, 0);
        x.way(7, TEST, 7, 7);
        checks.due("a TEST that names itself twice", x.loops(), 131);
        Relooper ring = new Relooper();
        ring.way(0, TEST, 1, 2);
        ring.way(1, GO, 2, 0);
        ring.way(2, TEST, 1, 0);
        checks.due("loops beside a ring of forward edges", ring.loops(), 1);
    }

    private static void promise8Merges() {
        Relooper x = new Relooper();
        x.way(0, TEST, 1, 1);
        checks.due("both ways of one TEST are one edge", x.merges(), 0);
        x.way(0, TEST, 1, 2);
        x.way(1, TEST, 2, 2);
        checks.due("two edges", x.merges(), 4);
        x.way(1, GO, 3, 0);
        x.way(2, GO, 3, 0);
        x.way(5, GO, 2, 0);
        checks.due("an edge from one not live does not count", x.merges(), 8);
        x.way(3, TEST, 2, 0);
        checks.due("an edge to 2 beside that of the ring", x.merges(), 12);
        x.way(3, TEST, 3, 0);
        checks.due("a back edge does not count", x.merges(), 8);
        x.way(2, TEST, 4, 6);
        checks.due("one forward and one back edge", x.merges(), 0);
        Relooper three = new Relooper();
        three.way(0, TEST, 1, 7);
        three.way(1, TEST, 2, 7);
        three.way(2, GO, 7, 0);
        checks.due("three edges", three.merges(), 128);
    }

    private static void promise9Run() {
        Relooper x = countdown();
        checks.due("countdown", x.run(3, 9), 1);
        checks.due("countdown outs", x.outs(), 4);
        for (int k = 0; k < 4; k++) {
            checks.due("countdown lastOut " + k, x.lastOut(k), k);
        }
        checks.due("countdown register 0", x.register(0), 0);
        checks.due("countdown register 1", x.register(1), 9);
        checks.due("countdown register 2", x.register(2), 0);
        Relooper fresh = new Relooper();
        fresh.act(0, ADD + 2, 4);
        fresh.run(1, 1);
        fresh.run(1, 1);
        checks.due("register 2 begins anew", fresh.register(2), 4);
        Relooper order = new Relooper();
        order.act(0, ADD, 1);
        order.way(0, TEST, 1, 2);
        order.run(0, 0);
        checks.due("the action comes before the way on", order.visits(1), 1);
        order.act(0, ADD, -1);
        order.run(1, 0);
        checks.due("the action comes before the way on", order.visits(2), 1);
    }

    /** Two merges, the first of which leads on to the second, whichever has the lower number. */
    private static void promise9RunThroughMerges(int merge, int later) {
        Relooper x = new Relooper();
        x.way(0, TEST, 1, 2);
        x.act(1, ADD + 2, 1);
        x.way(1, TEST + 1, merge, later);
        x.act(2, ADD + 2, 2);
        x.way(2, TEST + 1, later, merge);
        x.act(merge, ADD + 2, 10);
        x.way(merge, GO, later, 0);
        x.act(later, PUT + 2, 0);
        checks.due("merges", x.merges(), 1 << merge | 1 << later);
        int[][] runs = {{1, 1, 11, 4}, {1, 0, 1, 3}, {0, 1, 2, 3}, {0, 0, 12, 4}};
        for (int[] run : runs) {
            String name = "through " + merge + " and " + later + " with " + run[0] + ", " + run[1];
            checks.due(name, x.run(run[0], run[1]), 1);
            checks.due(name + " outs", x.outs(), 1);
            checks.due(name + " lastOut", x.lastOut(0), run[2]);
            checks.due(name + " carried", x.carried(), run[3]);
        }
    }

    private static void promise10Outcome() {
        Relooper x = countdown();
        x.run(100, 0);
        checks.due("outcome TIRED", x.outcome(), 2);
        x.run(1, 0);
        checks.due("outcome STOPPED", x.outcome(), 1);
        x.run(99, 0);
        checks.due("outcome TIRED again", x.outcome(), 2);
        checks.due("BAD", Relooper.BAD, -1);
        checks.due("NONE", Relooper.NONE, 0);
        checks.due("STOPPED", Relooper.STOPPED, 1);
        checks.due("TIRED", Relooper.TIRED, 2);
    }

    private static void promise11Register() {
        Relooper x = busy();
        x.run(10, 2);
        checks.due("register 0", x.register(0), 0);
        checks.due("register 1", x.register(1), 0);
        x.run(10, -2);
        checks.due("register 0", x.register(0), -3);
        checks.due("register 1", x.register(1), -3);
        checks.due("register 2", x.register(2), 0);
        x.act(5, ADD + 2, -10);
        x.run(10, -2);
        checks.due("register 2", x.register(2), -7);
    }

    private static void promise12Outs() {
        Relooper x = countdown();
        for (int n = 0; n < 20; n++) {
            x.run(n, 0);
            checks.due("outs of " + n, x.outs(), n + 1);
        }
        x.run(3, 0);
        checks.due("outs begin anew", x.outs(), 4);
    }

    private static void promise13LastOut() {
        Relooper x = countdown();
        x.run(20, 0);
        for (int k = 0; k < 8; k++) {
            checks.due("lastOut " + k, x.lastOut(k), k);
        }
        Relooper mixed = busy();
        mixed.run(10, 2);
        checks.due("register 2 put out last", mixed.lastOut(0), 0);
        checks.due("register 1 put out before", mixed.lastOut(1), 0);
        checks.due("register 0 put out before that", mixed.lastOut(2), 16);
        checks.due("register 0 put out first", mixed.lastOut(3), 13);
    }

    private static void promise14Carried() {
        Relooper x = countdown();
        x.run(5, 0);
        checks.due("carried in a loop", x.carried(), 12);
        x.run(0, 0);
        checks.due("carried begins anew", x.carried(), 2);
        Relooper mixed = busy();
        mixed.run(10, 2);
        checks.due("carried in loops", mixed.carried(), 9);
    }

    private static void promise15Visits() {
        Relooper x = countdown();
        x.run(5, 0);
        checks.due("visits 0", x.visits(0), 6);
        checks.due("visits 1", x.visits(1), 5);
        checks.due("visits 2", x.visits(2), 1);
        for (int b = 3; b < 8; b++) {
            checks.due("visits " + b, x.visits(b), 0);
        }
        x.run(0, 0);
        checks.due("visits 0 begin anew", x.visits(0), 1);
        checks.due("visits 1 begin anew", x.visits(1), 0);
    }

    private static void promise16BlockZeroIsLive() {
        for (Relooper x : new Relooper[] {new Relooper(), countdown(), busy(), irregular()}) {
            checks.due("0 is live", x.live() & 1, 1);
        }
    }
}
