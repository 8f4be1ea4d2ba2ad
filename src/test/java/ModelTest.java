/** Compares every answer with the model's, over many programs and over changes to them. */
public final class ModelTest {
    private static final Checks checks = new Checks();
    private static int runs = 0;
    private static int irregular = 0;
    private static int withMergesAndLoops = 0;

    public static void main(String[] args) {
        everySmallShape();
        Programs programs = new Programs(2026);
        for (int i = 0; i < 20000; i++) {
            compareOne(programs, "program " + i);
        }
        checks.due("regular programs were met", runs > 10000, true);
        checks.due("programs that are not regular were met", irregular > 1000, true);
        checks.due("merges and loops were met together", withMergesAndLoops > 5000, true);
        checks.end();
    }

    /** All ways on among three blocks: STOP, GO and TEST of register 0. */
    private static void everySmallShape() {
        for (int code = 0; code < 13 * 13 * 13; code++) {
            Relooper x = new Relooper();
            Model model = new Model();
            int rest = code;
            for (int b = 0; b < 3; b++) {
                setSmallWay(x, model, b, rest % 13);
                rest /= 13;
            }
            model.study();
            x.act(2, 1, -1);
            model.actionKind[2] = 1;
            model.actionNumber[2] = -1;
            String name = "small shape " + code;
            compareShape(name, x, model);
            compareRun(name, x, model, 0, 0);
            compareRun(name, x, model, 2, 0);
        }
    }

    private static void setSmallWay(Relooper x, Model model, int b, int pick) {
        int kind = pick == 0 ? 0 : pick <= 3 ? 1 : 2;
        int to = pick == 0 ? 0 : (pick - 1) % 3;
        int other = pick <= 3 ? 0 : (pick - 4) / 3;
        x.way(b, kind, to, other);
        model.wayKind[b] = kind;
        model.first[b] = to;
        model.second[b] = other;
    }

    private static void compareOne(Programs programs, String name) {
        Relooper x = new Relooper();
        Model model = new Model();
        int blocks = 1 + programs.below(8);
        programs.setAll(x, model, blocks);
        for (int change = 0; change < 4; change++) {
            compareShape(name, x, model);
            compareRun(name, x, model, programs.below(9) - 2, programs.below(9) - 2);
            programs.setWay(x, model, programs.below(blocks), blocks);
            programs.setAction(x, model, programs.below(blocks));
            model.study();
        }
    }

    private static void compareShape(String name, Relooper x, Model model) {
        checks.due(name + " live", x.live(), model.live);
        checks.due(name + " regular", x.regular(), model.regular);
        checks.due(name + " loops", x.loops(), model.loops);
        checks.due(name + " merges", x.merges(), model.merges);
        for (int b = 0; b < 8; b++) {
            checks.due(name + " dominators " + b, x.dominators(b), model.dominators[b]);
        }
    }

    private static void compareRun(String name, Relooper x, Model model, int first, int second) {
        runs += model.regular ? 1 : 0;
        irregular += model.regular ? 0 : 1;
        withMergesAndLoops += model.regular && model.merges != 0 && model.loops != 0 ? 1 : 0;
        checks.due(name + " run", x.run(first, second), model.run(first, second));
        checks.due(name + " outcome", x.outcome(), model.outcome);
        checks.due(name + " outs", x.outs(), model.outs);
        checks.due(name + " carried", x.carried(), model.carried);
        for (int i = -1; i <= 8; i++) {
            checks.due(name + " lastOut " + i, x.lastOut(i), model.lastOut(i));
            checks.due(name + " visits " + i, x.visits(i), i >= 0 && i < 8 ? model.visits[i] : 0);
            checks.due(name + " register " + i, x.register(i), i >= 0 && i < 3 ? model.registers[i] : 0);
        }
    }
}
