/** Makes programs of all shapes, the same ones each time, for a Relooper and a Model alike. */
final class Programs {
    private long state;

    Programs(long seed) {
        state = seed;
    }

    int below(int bound) {
        state = state * 6364136223846793005L + 1442695040888963407L;
        return (int) ((state >>> 33) % bound);
    }

    void setAll(Relooper x, Model model, int blocks) {
        for (int b = 0; b < blocks; b++) {
            setAction(x, model, b);
            setWay(x, model, b, blocks);
        }
        model.study();
    }

    void setAction(Relooper x, Model model, int b) {
        int kind = below(10);
        int n = kind >= 7 ? below(3) : below(7) - 4;
        x.act(b, kind, n);
        model.actionKind[b] = kind;
        model.actionNumber[b] = n;
    }

    void setWay(Relooper x, Model model, int b, int blocks) {
        int pick = below(16);
        int kind = pick == 0 ? 0 : pick <= 5 ? 1 : 2 + pick % 3;
        int to = target(b, blocks);
        int other = target(b, blocks);
        x.way(b, kind, to, other);
        model.wayKind[b] = kind;
        model.first[b] = to;
        model.second[b] = other;
    }

    /** Mostly onwards: with targets quite by chance, few programs would be regular and large. */
    private int target(int b, int blocks) {
        if (b + 1 < blocks && below(4) != 0) {
            return b + 1 + below(Math.min(3, blocks - b - 1));
        }
        return below(blocks);
    }
}
