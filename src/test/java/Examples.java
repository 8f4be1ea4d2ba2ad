/** Numbers and programs that several tests use; a test extends this to name them shortly. */
abstract class Examples {
    static final int STOP = 0;
    static final int GO = 1;
    static final int TEST = 2;
    static final int NOTHING = 0;
    static final int ADD = 1;
    static final int PUT = 4;
    static final int MOVE = 7;
    static final int MIN = Integer.MIN_VALUE;
    static final int MAX = Integer.MAX_VALUE;

    // Beside the nearest numbers: those that a shift, a mask or a cast could take for a good one.
    static final int[] NOT_BLOCKS = {-1, -8, 8, 9, 31, 32, 33, 256, 65536, MIN, MAX};
    static final int[] NOT_REGISTERS = {-1, -3, 3, 4, 5, 32, 33, 256, 65536, MIN, MAX};

    /** 0 -> 1 -> .. -> last, and the last one STOPs. */
    static Relooper chain(int last) {
        Relooper x = new Relooper();
        for (int b = 0; b < last; b++) {
            x.way(b, GO, b + 1, 0);
        }
        return x;
    }

    /** Block 0 puts out register 0; while it is above 0, block 1 takes 1 from it and goes to 0. */
    static Relooper countdown() {
        Relooper x = new Relooper();
        x.act(0, PUT, 0);
        x.way(0, TEST, 1, 2);
        x.act(1, ADD, -1);
        x.way(1, GO, 0, 0);
        return x;
    }

    /** Eight live blocks with actions of all sorts, two loops and a merge. */
    static Relooper busy() {
        Relooper x = new Relooper();
        x.act(0, ADD, 3);
        x.way(0, TEST + 1, 1, 2);
        x.act(1, PUT, 0);
        x.way(1, GO, 3, 0);
        x.act(2, MOVE + 2, 0);
        x.way(2, GO, 3, 0);
        x.act(3, ADD + 1, -1);
        x.way(3, TEST + 1, 0, 4);
        x.act(4, PUT + 1, 0);
        x.way(4, TEST + 2, 5, 6);
        x.act(5, ADD + 2, -1);
        x.way(5, GO, 4, 0);
        x.act(6, MOVE, 1);
        x.way(6, GO, 7, 0);
        x.act(7, PUT + 2, 0);
        x.way(7, STOP, 0, 0);
        return x;
    }

    /** Block 0 leads to 1 and to 2, which lead to each other. */
    static Relooper irregular() {
        Relooper x = new Relooper();
        x.way(0, TEST, 1, 2);
        x.way(1, GO, 2, 0);
        x.way(2, GO, 1, 0);
        return x;
    }

    /** All that the object tells of its program without a run. */
    static String shape(Relooper x) {
        StringBuilder told = new StringBuilder();
        told.append(x.live()).append(' ').append(x.regular());
        told.append(' ').append(x.loops()).append(' ').append(x.merges()).append(" dominators");
        for (int b = 0; b < 8; b++) {
            told.append(' ').append(x.dominators(b));
        }
        return told.toString();
    }

    /** All that the object tells of its last run. */
    static String lastRun(Relooper x) {
        StringBuilder told = new StringBuilder();
        told.append(x.outcome()).append(' ').append(x.carried()).append(" registers");
        for (int r = 0; r < 3; r++) {
            told.append(' ').append(x.register(r));
        }
        told.append(" visits");
        for (int b = 0; b < 8; b++) {
            told.append(' ').append(x.visits(b));
        }
        told.append(" outs ").append(x.outs()).append(':');
        for (int k = 0; k < 8; k++) {
            told.append(' ').append(x.lastOut(k));
        }
        return told.toString();
    }

    /** The shape, and what runs of the program that take each of its ways come to. */
    static String program(Relooper x) {
        StringBuilder told = new StringBuilder(shape(x));
        for (int first = -4; first <= 4; first += 4) {
            for (int second = -1; second <= 3; second += 2) {
                told.append(" / ").append(x.run(first, second)).append(' ').append(lastRun(x));
            }
        }
        return told.toString();
    }
}
