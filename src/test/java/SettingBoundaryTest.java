/** The sentences of promises 2 and 3 that name a boundary case, each with a test of its own. */
public final class SettingBoundaryTest extends Sentences {
    public static void main(String[] args) {
        sentence("Sets the action of block b. Answers true", SettingBoundaryTest::actTakesTheEdges);
        sentence("false, changing nothing, when b is not 0 .. 7, kind is not 0 .. 9",
                SettingBoundaryTest::actRefusesBlocks);
        sentence("kind is not 0 .. 9", SettingBoundaryTest::actRefusesKinds);
        sentence("or kind is 7 .. 9 and n is not 0 .. 2", SettingBoundaryTest::actRefusesMoves);
        sentence("(The last run stays as it was, here and below.)", SettingBoundaryTest::lastRunStays);
        sentence("Sets the way on of block b. Answers true", SettingBoundaryTest::wayTakesTheEdges);
        sentence("false, changing nothing, when b is not 0 .. 7, kind is not 0 .. 4",
                SettingBoundaryTest::wayRefusesBlocks);
        sentence("kind is not 0 .. 4", SettingBoundaryTest::wayRefusesKinds);
        sentence("x or y that kind uses (x as a for GO and TEST, y as b for TEST) is not 0 .. 7",
                SettingBoundaryTest::wayRefusesTargets);
        sentence("x or y that kind uses", SettingBoundaryTest::wayTakesAnyUnused);
        checks.end();
    }

    private static void actTakesTheEdges() {
        for (int b = 0; b < 8; b++) {
            for (int kind = 0; kind <= 9; kind++) {
                Relooper x = chain(b);
                checks.due("block " + b + " kind " + kind + " n 0", x.act(b, kind, 0), true);
                checks.due("block " + b + " kind " + kind + " n 2", x.act(b, kind, 2), true);
                for (int n : NOT_REGISTERS) {
                    checks.due("block " + b + " kind " + kind + " n " + n, x.act(b, kind, n), kind < MOVE);
                }
            }
            Relooper x = chain(b);
            x.act(b, ADD, 5);
            x.act(b, MOVE + 2, 1);
            x.run(1, 9);
            checks.due("the last action set is the one", x.register(0), 1);
            checks.due("the last action set is the one", x.register(2), 9);
            x.act(b, NOTHING, MAX);
            x.run(1, 9);
            checks.due("NOTHING takes the action away", x.register(2), 0);
        }
    }

    private static void actRefusesBlocks() {
        Relooper x = busy();
        String before = program(x);
        for (int b : NOT_BLOCKS) {
            for (int kind = 0; kind <= 9; kind++) {
                checks.due("block " + b + " kind " + kind, x.act(b, kind, 2), false);
            }
        }
        checks.due("changing nothing", program(x), before);
    }

    private static void actRefusesKinds() {
        Relooper x = busy();
        String before = program(x);
        for (int kind : new int[] {-1, -9, 10, 11, 12, 32, 33, 256, 265, 65536, MIN, MAX}) {
            for (int b = 0; b < 8; b++) {
                checks.due("block " + b + " kind " + kind, x.act(b, kind, 1), false);
            }
        }
        checks.due("changing nothing", program(x), before);
    }

    private static void actRefusesMoves() {
        Relooper x = busy();
        String before = program(x);
        for (int n : NOT_REGISTERS) {
            for (int kind = MOVE; kind <= 9; kind++) {
                for (int b = 0; b < 8; b++) {
                    checks.due("block " + b + " kind " + kind + " n " + n, x.act(b, kind, n), false);
                }
            }
        }
        checks.due("changing nothing", program(x), before);
    }

    private static void lastRunStays() {
        for (int first : new int[] {2, 100}) {
            Relooper x = countdown();
            x.run(first, 7);
            String before = lastRun(x);
            x.act(0, ADD, 9);
            checks.due("after act", lastRun(x), before);
            x.act(8, ADD, 9);
            x.act(0, 10, 9);
            x.act(0, MOVE, 3);
            checks.due("after an act refused", lastRun(x), before);
            x.way(0, STOP, 0, 0);
            checks.due("after way", lastRun(x), before);
            x.way(8, STOP, 0, 0);
            x.way(0, 5, 0, 0);
            x.way(0, GO, 8, 0);
            checks.due("after a way refused", lastRun(x), before);
            x.way(0, TEST, 1, 2);
            x.way(1, GO, 2, 0);
            x.way(2, GO, 1, 0);
            checks.due("after ways to what is not regular", lastRun(x), before);
            shape(x);
            checks.due("after asking for the shape", lastRun(x), before);
            x.run(50, 60);
            checks.due("after a run refused", lastRun(x), before);
        }
    }

    private static void wayTakesTheEdges() {
        for (int kind = 0; kind <= 4; kind++) {
            for (int b : new int[] {0, 7}) {
                for (int to : new int[] {0, 7}) {
                    for (int other : new int[] {0, 7}) {
                        Relooper x = new Relooper();
                        x.way(0, GO, 7, 0);
                        String call = "way(" + b + ", " + kind + ", " + to + ", " + other + ")";
                        checks.due(call, x.way(b, kind, to, other), true);
                        int first = kind >= GO ? 1 << to : 0;
                        int second = kind >= TEST ? 1 << other : 0;
                        int named = first | second;
                        checks.due(call + " live", x.live(), b == 0 ? 1 | named : 129);
                        checks.due(call + " loops", x.loops(), b == 0 ? named & 1 : named);
                    }
                }
            }
        }
        Relooper x = chain(7);
        x.way(3, GO, 3, 0);
        x.way(3, STOP, 0, 0);
        x.run(0, 0);
        checks.due("the last way on set is the one", x.carried(), 4);
    }

    private static void wayRefusesBlocks() {
        Relooper x = busy();
        String before = program(x);
        for (int b : NOT_BLOCKS) {
            for (int kind = 0; kind <= 4; kind++) {
                checks.due("block " + b + " kind " + kind, x.way(b, kind, 6, 7), false);
            }
        }
        checks.due("changing nothing", program(x), before);
    }

    private static void wayRefusesKinds() {
        Relooper x = busy();
        String before = program(x);
        for (int kind : new int[] {-1, -4, 5, 6, 7, 32, 33, 256, 258, 65536, MIN, MAX}) {
            for (int b = 0; b < 8; b++) {
                checks.due("block " + b + " kind " + kind, x.way(b, kind, 5, 6), false);
            }
        }
        checks.due("changing nothing", program(x), before);
    }

    private static void wayRefusesTargets() {
        Relooper x = busy();
        String before = program(x);
        for (int bad : NOT_BLOCKS) {
            for (int b = 0; b < 8; b++) {
                checks.due("GO " + bad + " from " + b, x.way(b, GO, bad, 5), false);
                for (int kind = TEST; kind <= 4; kind++) {
                    checks.due("TEST " + bad + " 5 from " + b, x.way(b, kind, bad, 5), false);
                    checks.due("TEST 5 " + bad + " from " + b, x.way(b, kind, 5, bad), false);
                    checks.due("TEST " + bad + " twice from " + b, x.way(b, kind, bad, bad), false);
                }
            }
        }
        checks.due("changing nothing", program(x), before);
    }

    private static void wayTakesAnyUnused() {
        for (int any : NOT_BLOCKS) {
            Relooper x = chain(2);
            checks.due("STOP " + any, x.way(1, STOP, any, any), true);
            checks.due("STOP " + any + " live", x.live(), 3);
            checks.due("STOP " + any + " run", x.run(1, 1), Relooper.STOPPED);
            checks.due("STOP " + any + " carried", x.carried(), 2);
            checks.due("GO 7 " + any, x.way(1, GO, 7, any), true);
            checks.due("GO 7 " + any + " live", x.live(), 131);
            checks.due("GO 7 " + any + " merges", x.merges(), 0);
            checks.due("GO 7 " + any + " run", x.run(0, 0), Relooper.STOPPED);
            checks.due("GO 7 " + any + " visits", x.visits(7), 1);
        }
    }
}
