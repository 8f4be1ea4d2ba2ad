/**
 * The document's terms, taken by their words and another way than in the program: dominators
 * from all paths without a repeated block, rings from a closure, runs from block to block.
 */
final class Model {
    final int[] actionKind = new int[8];
    final int[] actionNumber = new int[8];
    final int[] wayKind = new int[8];
    final int[] first = new int[8];
    final int[] second = new int[8];
    final int[] dominators = new int[8];
    int live;
    int loops;
    int merges;
    boolean regular;

    final int[] registers = new int[3];
    final int[] visits = new int[8];
    final int[] outNumbers = new int[80];
    int outs;
    int carried;
    int outcome;

    boolean edge(int from, int to) {
        boolean viaFirst = wayKind[from] >= 1 && first[from] == to;
        boolean viaSecond = wayKind[from] >= 2 && second[from] == to;
        return viaFirst || viaSecond;
    }

    void study() {
        live = 0;
        java.util.Arrays.fill(dominators, 255);
        follow(0, 0);
        for (int b = 0; b < 8; b++) {
            if ((live >> b & 1) == 0) {
                dominators[b] = 0;
            }
        }
        studyEdges();
    }

    private void follow(int b, int before) {
        if ((before >> b & 1) == 1) {
            return;
        }
        int path = before | 1 << b;
        live |= 1 << b;
        dominators[b] &= path;
        for (int to = 0; to < 8; to++) {
            if (edge(b, to)) {
                follow(to, path);
            }
        }
    }

    private void studyEdges() {
        boolean[][] leads = new boolean[8][8];
        int[] count = new int[8];
        loops = 0;
        merges = 0;
        for (int u = 0; u < 8; u++) {
            for (int h = 0; h < 8; h++) {
                if ((live >> u & 1) == 0 || !edge(u, h)) {
                    continue;
                }
                if ((dominators[u] >> h & 1) == 1) {
                    loops |= 1 << h;
                } else {
                    leads[u][h] = true;
                    count[h]++;
                }
            }
        }
        for (int m = 0; m < 8; m++) {
            for (int u = 0; u < 8; u++) {
                for (int h = 0; h < 8; h++) {
                    leads[u][h] |= leads[u][m] && leads[m][h];
                }
            }
        }
        regular = true;
        for (int b = 0; b < 8; b++) {
            regular &= !leads[b][b];
            merges |= count[b] >= 2 ? 1 << b : 0;
        }
    }

    int run(int x, int y) {
        if (!regular) {
            return -1;
        }
        registers[0] = x;
        registers[1] = y;
        registers[2] = 0;
        java.util.Arrays.fill(visits, 0);
        outs = 0;
        carried = 0;
        outcome = 2;
        int b = 0;
        while (carried < 80) {
            act(b);
            carried++;
            visits[b]++;
            if (wayKind[b] == 0) {
                outcome = 1;
                break;
            }
            b = wayKind[b] == 1 || registers[wayKind[b] - 2] > 0 ? first[b] : second[b];
        }
        return outcome;
    }

    private void act(int b) {
        int n = actionNumber[b];
        switch (actionKind[b]) {
            case 1 -> registers[0] += n;
            case 2 -> registers[1] += n;
            case 3 -> registers[2] += n;
            case 4 -> outNumbers[outs++] = registers[0];
            case 5 -> outNumbers[outs++] = registers[1];
            case 6 -> outNumbers[outs++] = registers[2];
            case 7 -> registers[0] = registers[n];
            case 8 -> registers[1] = registers[n];
            case 9 -> registers[2] = registers[n];
            default -> { }
        }
    }

    int lastOut(int k) {
        return k >= 0 && k <= 7 && k < outs ? outNumbers[outs - 1 - k] : 0;
    }
}
