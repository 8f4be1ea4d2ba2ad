/** One method for each promise of the document: ordinary inputs, edges and wrong inputs. */
public final class PromiseTest {
    private static final int STOP = 0;
    private static final int GO = 1;
    private static final int TEST = 2;
    private static final int ADD = 1;
    private static final int PUT = 4;
    private static final int MOVE = 7;
    private static final int MIN = Integer.MIN_VALUE;
    private static final int MAX = Integer.MAX_VALUE;
    private static final int[] NOT_BLOCKS = {-1, 8, 9, 31, 32, 33, MIN, MAX};
    private static final int[] NOT_REGISTERS = {-1, 3, 4, 32, MIN, MAX};

    private static final Checks checks = new Checks();

    public static void main(String[] args) {
        promise1NewObject();
        promise2Act();
        promise2ActRefuses();
        promise3Way();
        promise3WayRefuses();
        promise4Live();
        promise5Dominators();
        promise6Regular();
        promise7Loops();
        promise8Merges();
        promise9Run();
        promise9RunLimit();
        promise9RunBad();
        promise10Outcome();
        promise11Register();
        promise12Outs();
        promise13LastOut();
        promise14Carried();
        promise15Visits();
        promise16BlockZeroIsLive();
        theLastRunStays();
        checks.end();
    }

    private static void dueNoRun(String name, Relooper x) {
        checks.due(name + " outcome", x.outcome(), Relooper.NONE);
        checks.due(name + " outs", x.outs(), 0);
        checks.due(name + " carried", x.carried(), 0);
        for (int i = -1; i <= 8; i++) {
            checks.due(name + " register " + i, x.register(i), 0);
            checks.due(name + " lastOut " + i, x.lastOut(i), 0);
            checks.due(name + " visits " + i, x.visits(i), 0);
        }
    }

    /** A chain 0 -> 1 -> .. -> last, the last one STOPs. */
    private static Relooper chain(int last) {
        Relooper x = new Relooper();
        for (int b = 0; b < last; b++) {
            x.way(b, GO, b + 1, 0);
        }
        return x;
    }

    /** Block 0 puts out register 0 and takes 1 from it in block 1, while it is above 0. */
    private static Relooper countdown() {
        Relooper x = new Relooper();
        x.act(0, PUT, 0);
        x.way(0, TEST, 1, 2);
        x.act(1, ADD, -1);
        x.way(1, GO, 0, 0);
        return x;
    }

    private static void promise1NewObject() {
        Relooper x = new Relooper();
        dueNoRun("new", x);
        checks.due("new live", x.live(), 1);
        checks.due("new regular", x.regular(), true);
        checks.due("new loops", x.loops(), 0);
        checks.due("new merges", x.merges(), 0);
        for (int b = 0; b < 8; b++) {
            checks.due("new dominators " + b, x.dominators(b), b == 0 ? 1 : 0);
        }
        for (int b = 1; b < 8; b++) {
            Relooper one = new Relooper();
            one.way(0, GO, b, 0);
            checks.due("unset block stops", one.run(7, -8), Relooper.STOPPED);
            checks.due("unset block carried", one.carried(), 2);
            checks.due("unset block outs", one.outs(), 0);
            checks.due("unset block register 0", one.register(0), 7);
            checks.due("unset block register 1", one.register(1), -8);
            checks.due("unset block register 2", one.register(2), 0);
        }
        Relooper other = new Relooper();
        other.act(0, ADD, 5);
        other.run(1, 1);
        dueNoRun("beside another object", x);
    }

    private static void promise2Act() {
        for (int b = 0; b < 8; b++) {
            for (int r = 0; r < 3; r++) {
                Relooper x = chain(b);
                checks.due("act ADD", x.act(b, ADD + r, -30), true);
                x.run(100, 200);
                for (int s = 0; s < 3; s++) {
                    int before = s == 0 ? 100 : s == 1 ? 200 : 0;
                    checks.due("ADD to " + r + " in " + s, x.register(s), before - (s == r ? 30 : 0));
                }
                checks.due("act PUT", x.act(b, PUT + r, 99), true);
                x.run(100, 200);
                checks.due("PUT outs", x.outs(), 1);
                checks.due("PUT " + r, x.lastOut(0), r == 0 ? 100 : r == 1 ? 200 : 0);
                for (int n = 0; n < 3; n++) {
                    checks.due("act MOVE", x.act(b, MOVE + r, n), true);
                    x.run(100, 200);
                    int moved = n == 0 ? 100 : n == 1 ? 200 : 0;
                    checks.due("MOVE " + n + " to " + r, x.register(r), moved);
                    checks.due("MOVE outs", x.outs(), 0);
                }
                checks.due("act NOTHING", x.act(b, 0, MAX), true);
                x.run(100, 200);
                checks.due("NOTHING register 0", x.register(0), 100);
                checks.due("NOTHING register 1", x.register(1), 200);
                checks.due("NOTHING register 2", x.register(2), 0);
                checks.due("NOTHING outs", x.outs(), 0);
            }
        }
        Relooper wrap = new Relooper();
        wrap.act(0, ADD, 1);
        wrap.run(MAX, 0);
        checks.due("sum wraps up", wrap.register(0), MIN);
        wrap.act(0, ADD + 1, MIN);
        wrap.run(0, -1);
        checks.due("sum wraps down", wrap.register(1), MAX);
    }

    private static void promise2ActRefuses() {
        Relooper x = new Relooper();
        x.act(0, ADD, 5);
        for (int b : NOT_BLOCKS) {
            for (int kind = 0; kind <= 9; kind++) {
                checks.due("act of block " + b, x.act(b, kind, 0), false);
            }
        }
        for (int kind : new int[] {-1, 10, 11, 32, MIN, MAX}) {
            checks.due("act of kind " + kind, x.act(0, kind, 0), false);
        }
        for (int n : NOT_REGISTERS) {
            for (int kind = MOVE; kind <= 9; kind++) {
                checks.due("MOVE of " + n, x.act(0, kind, n), false);
            }
        }
        x.run(1, 2);
        checks.due("a refused act changes nothing", x.register(0), 6);
        for (int kind = 0; kind < MOVE; kind++) {
            checks.due("n is free for kind " + kind, x.act(1, kind, MIN), true);
            checks.due("n is free for kind " + kind, x.act(1, kind, MAX), true);
        }
    }

    private static void promise3Way() {
        for (int r = 0; r < 3; r++) {
            for (int value : new int[] {MIN, -1, 0, 1, MAX}) {
                Relooper x = new Relooper();
                checks.due("way GO", x.way(0, GO, 1, 0), true);
                x.act(0, MOVE + 2, 0);
                checks.due("way TEST", x.way(1, TEST + r, 6, 7), true);
                x.run(value, value);
                checks.due("TEST of " + value + " to 6", x.visits(6), value > 0 ? 1 : 0);
                checks.due("TEST of " + value + " to 7", x.visits(7), value > 0 ? 0 : 1);
                checks.due("way STOP", x.way(1, STOP, 0, 0), true);
                x.run(value, value);
                checks.due("STOP again", x.carried(), 2);
            }
        }
        Relooper other = new Relooper();
        other.way(0, TEST + 1, 1, 2);
        other.run(1, 0);
        checks.due("TEST looks at its own register", other.visits(2), 1);
        other.way(0, TEST + 2, 1, 2);
        other.run(1, 1);
        checks.due("register 2 begins at 0", other.visits(2), 1);
    }

    private static void promise3WayRefuses() {
        Relooper x = new Relooper();
        x.way(0, TEST, 1, 2);
        for (int bad : NOT_BLOCKS) {
            for (int kind = 0; kind <= 4; kind++) {
                checks.due("way of block " + bad, x.way(bad, kind, 0, 0), false);
            }
            checks.due("GO " + bad, x.way(0, GO, bad, 0), false);
            for (int kind = TEST; kind <= 4; kind++) {
                checks.due("TEST " + bad + " 0", x.way(0, kind, bad, 0), false);
                checks.due("TEST 0 " + bad, x.way(0, kind, 0, bad), false);
                checks.due("TEST bad bad", x.way(0, kind, bad, bad), false);
            }
        }
        for (int kind : new int[] {-1, 5, 6, 32, MIN, MAX}) {
            checks.due("way of kind " + kind, x.way(0, kind, 0, 0), false);
        }
        checks.due("a refused way changes nothing: live", x.live(), 7);
        x.run(1, 0);
        checks.due("a refused way changes nothing: run", x.visits(1), 1);
        for (int bad : NOT_BLOCKS) {
            checks.due("STOP uses neither", x.way(1, STOP, bad, bad), true);
            checks.due("GO does not use y", x.way(1, GO, 3, bad), true);
            checks.due("live after such a GO", x.live(), 15);
            checks.due("run after such a GO", x.run(1, 0), Relooper.STOPPED);
            checks.due("STOP uses neither", x.way(1, STOP, bad, bad), true);
            checks.due("live after such a STOP", x.live(), 7);
        }
    }

    private static void promise4Live() {
        for (int last = 0; last < 8; last++) {
            checks.due("live chain", chain(last).live(), (1 << last + 1) - 1);
        }
        Relooper back = new Relooper();
        back.way(0, GO, 7, 0);
        for (int b = 7; b > 1; b--) {
            back.way(b, GO, b - 1, 0);
        }
        checks.due("live chain downwards", back.live(), 255);
        back.way(7, STOP, 0, 0);
        checks.due("live after a cut", back.live(), 129);
        Relooper island = new Relooper();
        island.way(3, GO, 4, 0);
        island.way(4, TEST, 3, 0);
        checks.due("an island is not live", island.live(), 1);
        island.way(0, TEST, 5, 4);
        checks.due("both ways of a TEST are live", island.live(), 57);
        island.way(0, GO, 5, 4);
        checks.due("GO names x alone", island.live(), 33);
    }

    private static void promise5Dominators() {
        Relooper x = new Relooper();
        x.way(0, TEST, 1, 2);
        x.way(1, GO, 3, 0);
        x.way(2, GO, 3, 0);
        x.way(3, TEST, 4, 0);
        checks.due("dominators 0", x.dominators(0), 1);
        checks.due("dominators 1", x.dominators(1), 3);
        checks.due("dominators 2", x.dominators(2), 5);
        checks.due("dominators 3", x.dominators(3), 9);
        checks.due("dominators 4", x.dominators(4), 25);
        checks.due("dominators of one not live", x.dominators(5), 0);
        x.way(5, GO, 4, 0);
        checks.due("ways from one not live don't count", x.dominators(4), 25);
        for (int b : NOT_BLOCKS) {
            checks.due("dominators " + b, x.dominators(b), 0);
        }
        for (int b = 0; b < 8; b++) {
            checks.due("dominators in a chain", chain(7).dominators(b), (1 << b + 1) - 1);
        }
        x.way(0, STOP, 0, 0);
        checks.due("dominators when no longer live", x.dominators(3), 0);
    }

    private static void promise6Regular() {
        Relooper x = new Relooper();
        x.way(0, TEST, 1, 2);
        x.way(1, GO, 3, 0);
        x.way(3, GO, 2, 0);
        x.way(2, TEST, 4, 1);
        checks.due("a ring of three with two ways in", x.regular(), false);
        x.way(0, GO, 1, 0);
        checks.due("a ring with one way in", x.regular(), true);
        x.way(0, STOP, 0, 0);
        x.way(5, TEST, 6, 7);
        x.way(6, GO, 7, 0);
        x.way(7, GO, 6, 0);
        checks.due("a ring that is not live", x.regular(), true);
        x.way(0, GO, 5, 0);
        checks.due("the same ring, live", x.regular(), false);
        Relooper self = new Relooper();
        self.way(0, TEST, 0, 1);
        self.way(1, TEST, 1, 0);
        checks.due("rings of back edges", self.regular(), true);
        Relooper behind = new Relooper();
        behind.way(0, TEST, 6, 7);
        behind.way(7, TEST, 6, 1);
        behind.way(6, GO, 7, 0);
        checks.due("a ring before other blocks", behind.regular(), false);
    }

    private static void promise7Loops() {
        Relooper x = new Relooper();
        x.way(0, TEST, 0, 1);
        checks.due("a block that goes on with itself", x.loops(), 1);
        x.way(1, GO, 2, 0);
        x.way(2, TEST, 1, 3);
        checks.due("two loops", x.loops(), 3);
        x.way(3, TEST, 1, 2);
        checks.due("back edges from inside", x.loops(), 7);
        x.way(6, GO, 6, 0);
        checks.due("a loop that is not live", x.loops(), 7);
        x.way(3, GO, 7, 0);
        x.way(7, TEST, 7, 7);
        checks.due("a TEST that names itself twice", x.loops(), 131);
        Relooper ring = new Relooper();
        ring.way(0, TEST, 1, 2);
        ring.way(1, GO, 2, 0);
        ring.way(2, TEST, 1, 0);
        checks.due("loops beside a ring of forward edges", ring.loops(), 1);
    }

    private static void promise8Merges() {
        Relooper x = new Relooper();
        x.way(0, TEST, 1, 1);
        checks.due("both ways of one TEST are one edge", x.merges(), 0);
        x.way(0, TEST, 1, 2);
        x.way(1, TEST, 2, 2);
        checks.due("two edges", x.merges(), 4);
        x.way(1, GO, 3, 0);
        x.way(2, GO, 3, 0);
        x.way(5, GO, 2, 0);
        checks.due("an edge from one not live does not count", x.merges(), 8);
        x.way(3, TEST, 2, 0);
        checks.due("an edge to 2 beside that of the ring", x.merges(), 12);
        x.way(3, TEST, 3, 0);
        checks.due("a back edge does not count", x.merges(), 8);
        x.way(2, TEST, 4, 6);
        checks.due("one forward and one back edge", x.merges(), 0);
        Relooper three = new Relooper();
        three.way(0, TEST, 1, 7);
        three.way(1, TEST, 2, 7);
        three.way(2, GO, 7, 0);
        checks.due("three edges", three.merges(), 128);
    }

    private static void promise9Run() {
        Relooper x = countdown();
        checks.due("countdown", x.run(3, 9), 1);
        checks.due("countdown outs", x.outs(), 4);
        for (int k = 0; k < 4; k++) {
            checks.due("countdown lastOut " + k, x.lastOut(k), k);
        }
        checks.due("countdown register 0", x.register(0), 0);
        checks.due("countdown register 1", x.register(1), 9);
        checks.due("countdown register 2", x.register(2), 0);
        Relooper fresh = new Relooper();
        fresh.act(0, ADD + 2, 4);
        fresh.run(1, 1);
        fresh.run(1, 1);
        checks.due("register 2 begins anew", fresh.register(2), 4);
        Relooper order = new Relooper();
        order.act(0, ADD, 1);
        order.way(0, TEST, 1, 2);
        order.run(0, 0);
        checks.due("the action comes before the way on", order.visits(1), 1);
        order.act(0, ADD, -1);
        order.run(1, 0);
        checks.due("the action comes before the way on", order.visits(2), 1);
    }

    private static void promise9RunLimit() {
        // The countdown carries out two blocks for each unit, then 0 and 2.
        Relooper x = countdown();
        checks.due("80th block STOPs", x.run(39, 0), Relooper.STOPPED);
        checks.due("80th block STOPs: carried", x.carried(), 80);
        checks.due("80th block STOPs: register", x.register(0), 0);
        checks.due("82 blocks", x.run(40, 0), Relooper.TIRED);
        checks.due("82 blocks: carried", x.carried(), 80);
        checks.due("82 blocks: register", x.register(0), 0);
        checks.due("82 blocks: outs", x.outs(), 40);
        checks.due("82 blocks: last of them not carried out", x.visits(2), 0);
        // One block before the countdown makes all numbers odd.
        Relooper odd = new Relooper();
        odd.way(0, GO, 1, 0);
        odd.act(1, ADD, -1);
        odd.way(1, TEST, 1, 2);
        odd.act(2, PUT, 0);
        checks.due("80 blocks", odd.run(78, 0), Relooper.STOPPED);
        checks.due("80 blocks: outs", odd.outs(), 1);
        checks.due("81 blocks", odd.run(79, 0), Relooper.TIRED);
        checks.due("81 blocks: carried", odd.carried(), 80);
        checks.due("81 blocks: the last did not put out", odd.outs(), 0);
        checks.due("79 blocks", odd.run(77, 0), Relooper.STOPPED);
        checks.due("79 blocks: carried", odd.carried(), 79);
    }

    private static void promise9RunBad() {
        Relooper x = countdown();
        x.run(2, 5);
        x.way(2, TEST, 3, 4);
        x.way(3, GO, 4, 0);
        x.way(4, GO, 3, 0);
        checks.due("run when not regular", x.run(50, 60), Relooper.BAD);
        checks.due("BAD: outcome", x.outcome(), Relooper.STOPPED);
        checks.due("BAD: register 0", x.register(0), 0);
        checks.due("BAD: register 1", x.register(1), 5);
        checks.due("BAD: outs", x.outs(), 3);
        checks.due("BAD: lastOut", x.lastOut(2), 2);
        checks.due("BAD: carried", x.carried(), 6);
        checks.due("BAD: visits", x.visits(0), 3);
        Relooper never = new Relooper();
        never.way(0, TEST, 1, 2);
        never.way(1, GO, 2, 0);
        never.way(2, GO, 1, 0);
        checks.due("BAD at first", never.run(1, 1), Relooper.BAD);
        dueNoRun("BAD at first", never);
    }

    private static void promise10Outcome() {
        Relooper x = countdown();
        checks.due("outcome at first", x.outcome(), Relooper.NONE);
        x.run(100, 0);
        checks.due("outcome TIRED", x.outcome(), Relooper.TIRED);
        x.run(1, 0);
        checks.due("outcome STOPPED", x.outcome(), Relooper.STOPPED);
        checks.due("BAD", Relooper.BAD, -1);
        checks.due("NONE", Relooper.NONE, 0);
        checks.due("STOPPED", Relooper.STOPPED, 1);
        checks.due("TIRED", Relooper.TIRED, 2);
    }

    private static void promise11Register() {
        Relooper x = new Relooper();
        x.act(0, MOVE + 2, 1);
        x.run(MIN, MAX);
        checks.due("register 0", x.register(0), MIN);
        checks.due("register 1", x.register(1), MAX);
        checks.due("register 2", x.register(2), MAX);
        for (int r : NOT_REGISTERS) {
            checks.due("register " + r, x.register(r), 0);
        }
    }

    private static void promise12Outs() {
        Relooper x = countdown();
        for (int n = 0; n < 20; n++) {
            x.run(n, 0);
            checks.due("outs of " + n, x.outs(), n + 1);
        }
        Relooper all = new Relooper();
        all.act(0, PUT + 1, 0);
        all.way(0, GO, 0, 0);
        all.run(0, 6);
        checks.due("outs of 80 blocks", all.outs(), 80);
        checks.due("lastOut of 80 blocks", all.lastOut(0), 6);
        all.act(0, 0, 0);
        all.run(0, 6);
        checks.due("outs begin anew", all.outs(), 0);
        checks.due("lastOut begins anew", all.lastOut(0), 0);
    }

    private static void promise13LastOut() {
        Relooper x = countdown();
        for (int n : new int[] {0, 5, 6, 7, 8, 20, 200}) {
            x.run(n, 0);
            for (int k = 0; k < 8; k++) {
                checks.due("lastOut " + k + " of " + n, x.lastOut(k), k <= n ? lastOfCountdown(n) + k : 0);
            }
            checks.due("lastOut 8", x.lastOut(8), 0);
            for (int k : new int[] {-1, 9, 79, 80, 81, MIN, MAX}) {
                checks.due("lastOut " + k, x.lastOut(k), 0);
            }
        }
        // Fewer than before: the older numbers must not shine through.
        x.run(20, 0);
        x.run(1, 0);
        checks.due("lastOut 1", x.lastOut(1), 1);
        checks.due("lastOut 2", x.lastOut(2), 0);
        checks.due("lastOut 7", x.lastOut(7), 0);
    }

    /** The last number that the countdown from n puts out: it tires after 40 of them. */
    private static int lastOfCountdown(int n) {
        return n >= 40 ? n - 39 : 0;
    }

    private static void promise14Carried() {
        for (int last = 0; last < 8; last++) {
            Relooper x = chain(last);
            x.run(0, 0);
            checks.due("carried in a chain", x.carried(), last + 1);
        }
        Relooper x = countdown();
        x.run(5, 0);
        checks.due("carried in a loop", x.carried(), 12);
        x.run(0, 0);
        checks.due("carried begins anew", x.carried(), 2);
    }

    private static void promise15Visits() {
        Relooper x = countdown();
        x.run(5, 0);
        checks.due("visits 0", x.visits(0), 6);
        checks.due("visits 1", x.visits(1), 5);
        checks.due("visits 2", x.visits(2), 1);
        for (int b = 3; b < 8; b++) {
            checks.due("visits " + b, x.visits(b), 0);
        }
        for (int b : NOT_BLOCKS) {
            checks.due("visits " + b, x.visits(b), 0);
        }
        x.run(0, 0);
        checks.due("visits 0 begin anew", x.visits(0), 1);
        checks.due("visits 1 begin anew", x.visits(1), 0);
        Relooper end = chain(7);
        end.run(0, 0);
        checks.due("visits 7", end.visits(7), 1);
    }

    private static void promise16BlockZeroIsLive() {
        Relooper x = new Relooper();
        checks.due("0 is live in a new object", x.live() & 1, 1);
        x.way(1, GO, 2, 0);
        checks.due("0 is live beside ways from others", x.live(), 1);
        x.way(0, GO, 1, 0);
        checks.due("0 is live when none names it", x.live(), 7);
        x.way(2, GO, 0, 0);
        checks.due("0 is live when one names it", x.live(), 7);
        x.way(0, STOP, 0, 0);
        checks.due("0 is live when it STOPs", x.live(), 1);
    }

    private static void theLastRunStays() {
        Relooper x = countdown();
        x.run(2, 7);
        x.act(0, ADD, 9);
        x.act(9, ADD, 9);
        x.way(0, STOP, 0, 0);
        x.way(0, 9, 0, 0);
        checks.due("stays: outcome", x.outcome(), Relooper.STOPPED);
        checks.due("stays: register", x.register(1), 7);
        checks.due("stays: outs", x.outs(), 3);
        checks.due("stays: lastOut", x.lastOut(2), 2);
        checks.due("stays: carried", x.carried(), 6);
        checks.due("stays: visits", x.visits(1), 2);
    }
}
