/**
 * Turns blocks that jump to each other into nested code without jumps, and runs that.
 *
 * The nested code follows the tree of dominators: the code of a block holds the code of the
 * blocks that it dominates. A merge is written once, behind a scope that its forward edges
 * leave; a loop is written around the block that its back edges lead to.
 */
public final class Relooper {
    public static final int BAD = -1;
    public static final int NONE = 0;
    public static final int STOPPED = 1;
    public static final int TIRED = 2;

    private static final int BLOCKS = 8;
    private static final int REGISTERS = 3;
    private static final int RUN_LIMIT = 80;
    private static final int OUTS_TOLD = 8;

    // Of ADD, PUT, MOVE and TEST this is the kind for register 0; registers 1 and 2 follow it.
    private static final int ADD = 1;
    private static final int PUT = 4;
    private static final int MOVE = 7;
    private static final int LAST_ACTION = 9;
    private static final int STOP = 0;
    private static final int GO = 1;
    private static final int TEST = 2;
    private static final int LAST_WAY = 4;

    // The forms of the nested code. PIECE stands only among the pending forms: it is the code
    // of a block and of all that it dominates, not yet taken apart.
    private static final int PIECE = 0;
    private static final int LOOP = 1;
    private static final int LOOP_END = 2;
    private static final int SCOPE = 3;
    private static final int SCOPE_END = 4;
    private static final int DO = 5;
    private static final int IF = 6;
    private static final int ELSE = 7;
    private static final int IF_END = 8;
    private static final int LEAVE = 9;
    private static final int AGAIN = 10;
    private static final int FINISH = 11;

    // A block adds at most 11 forms (PIECE, LOOP, SCOPE, DO, IF, their ends and two edges).
    private static final int FORM_ROOM = 128;
    // From one block to the next a run passes fewer than 2 * FORM_ROOM forms, and it carries
    // out at most RUN_LIMIT blocks: no run comes near this.
    private static final int STEP_LIMIT = 1000000;

    private final int[] actionKind = new int[BLOCKS];
    private final int[] actionNumber = new int[BLOCKS];
    private final int[] wayKind = new int[BLOCKS];
    private final int[] wayFirst = new int[BLOCKS];
    private final int[] waySecond = new int[BLOCKS];

    // Sets of blocks have bit b for block b.
    private final int[] dominatorSet = new int[BLOCKS];
    private final int[] forwardSet = new int[BLOCKS];
    private final int[] order = new int[BLOCKS];
    private int liveSet;
    private int loopSet;
    private int mergeSet;
    private int orderedSet;
    private int orderedCount;

    private final int[] pendingForm = new int[FORM_ROOM];
    private final int[] pendingBlock = new int[FORM_ROOM];
    private int pendingCount;
    private final int[] codeForm = new int[FORM_ROOM];
    private final int[] codeBlock = new int[FORM_ROOM];
    private int codeLength;
    private final int[] loopPlace = new int[BLOCKS];
    private final int[] scopeEndPlace = new int[BLOCKS];
    private final int[] elsePlace = new int[BLOCKS];

    private final int[] registers = new int[REGISTERS];
    private final int[] visitCounts = new int[BLOCKS];
    private final int[] outNumbers = new int[RUN_LIMIT];
    private int outCount;
    private int carriedCount;
    private int lastOutcome;

    public Relooper() {
        studyShape();
    }

    public boolean act(int b, int kind, int n) {
        if (!isBlock(b) || kind < 0 || kind > LAST_ACTION) {
            return false;
        }
        if (kind >= MOVE && !isRegister(n)) {
            return false;
        }
        actionKind[b] = kind;
        actionNumber[b] = n;
        return true;
    }

    public boolean way(int b, int kind, int x, int y) {
        if (!isBlock(b) || kind < 0 || kind > LAST_WAY) {
            return false;
        }
        if (kind >= GO && !isBlock(x)) {
            return false;
        }
        if (kind >= TEST && !isBlock(y)) {
            return false;
        }
        wayKind[b] = kind;
        wayFirst[b] = x;
        waySecond[b] = y;
        studyShape();
        return true;
    }

    public int live() {
        return liveSet;
    }

    public int dominators(int b) {
        return isBlock(b) ? dominatorSet[b] : 0;
    }

    public boolean regular() {
        return orderedSet == liveSet;
    }

    public int loops() {
        return loopSet;
    }

    public int merges() {
        return mergeSet;
    }

    public int run(int x, int y) {
        if (!regular()) {
            return BAD;
        }
        writeCode();
        forgetRun();
        registers[0] = x;
        registers[1] = y;
        runCode();
        return lastOutcome;
    }

    public int outcome() {
        return lastOutcome;
    }

    public int register(int r) {
        return isRegister(r) ? registers[r] : 0;
    }

    public int outs() {
        return outCount;
    }

    public int lastOut(int k) {
        if (k < 0 || k >= OUTS_TOLD || k >= outCount) {
            return 0;
        }
        return outNumbers[outCount - 1 - k];
    }

    public int carried() {
        return carriedCount;
    }

    public int visits(int b) {
        return isBlock(b) ? visitCounts[b] : 0;
    }

    private static boolean isBlock(int b) {
        return b >= 0 && b < BLOCKS;
    }

    private static boolean isRegister(int r) {
        return r >= 0 && r < REGISTERS;
    }

    private static boolean has(int set, int b) {
        return (set >> b & 1) == 1;
    }

    // The shape depends on the ways on alone, so it is studied when one of them is set.
    private void studyShape() {
        liveSet = reachedOutside(0);
        studyDominators();
        studyEdges();
        orderBlocks();
    }

    private int targetsOf(int b) {
        if (wayKind[b] == STOP) {
            return 0;
        }
        int targets = 1 << wayFirst[b];
        if (wayKind[b] >= TEST) {
            targets |= 1 << waySecond[b];
        }
        return targets;
    }

    private int reachedOutside(int avoidedSet) {
        int reached = 1 & ~avoidedSet;
        // Each round but the last finds a new block, so as many rounds as blocks find all.
        for (int round = 0; round < BLOCKS; round++) {
            for (int b = 0; b < BLOCKS; b++) {
                if (has(reached, b)) {
                    reached |= targetsOf(b) & ~avoidedSet;
                }
            }
        }
        return reached;
    }

    private void studyDominators() {
        for (int b = 0; b < BLOCKS; b++) {
            dominatorSet[b] = 0;
        }
        for (int h = 0; h < BLOCKS; h++) {
            int lost = liveSet & ~reachedOutside(1 << h);
            for (int b = 0; b < BLOCKS; b++) {
                if (has(lost, b)) {
                    dominatorSet[b] |= 1 << h;
                }
            }
        }
    }

    private void studyEdges() {
        loopSet = 0;
        mergeSet = 0;
        int ledToOnce = 0;
        for (int b = 0; b < BLOCKS; b++) {
            int targets = has(liveSet, b) ? targetsOf(b) : 0;
            loopSet |= targets & dominatorSet[b];
            forwardSet[b] = targets & ~dominatorSet[b];
            mergeSet |= ledToOnce & forwardSet[b];
            ledToOnce |= forwardSet[b];
        }
    }

    // Puts the live blocks in an order that all forward edges keep to; the blocks that a ring
    // of forward edges leads to, or that are in one, stay out of it.
    private void orderBlocks() {
        orderedSet = 0;
        orderedCount = 0;
        for (int round = 0; round < BLOCKS; round++) {
            int ready = readyToOrder();
            for (int b = 0; b < BLOCKS; b++) {
                if (has(ready, b) && orderedCount < BLOCKS) {
                    order[orderedCount] = b;
                    orderedCount++;
                }
            }
            orderedSet |= ready;
        }
    }

    private int readyToOrder() {
        int waiting = liveSet & ~orderedSet;
        int held = 0;
        for (int b = 0; b < BLOCKS; b++) {
            if (has(waiting, b)) {
                held |= forwardSet[b];
            }
        }
        return waiting & ~held;
    }

    // The pending forms are a stack, so the parts of a piece are pushed from its last to its
    // first: this stands for the recursion over the tree of dominators.
    private void writeCode() {
        codeLength = 0;
        pendingCount = 0;
        push(PIECE, 0);
        for (int i = 0; i < FORM_ROOM && pendingCount > 0; i++) {
            pendingCount--;
            int form = pendingForm[pendingCount];
            int block = pendingBlock[pendingCount];
            if (form == PIECE) {
                pushPiece(block);
            } else {
                write(form, block);
            }
        }
    }

    private void push(int form, int block) {
        if (pendingCount < FORM_ROOM) {
            pendingForm[pendingCount] = form;
            pendingBlock[pendingCount] = block;
            pendingCount++;
        }
    }

    private void write(int form, int block) {
        if (codeLength >= FORM_ROOM) {
            return;
        }
        codeForm[codeLength] = form;
        codeBlock[codeLength] = block;
        if (form == LOOP) {
            loopPlace[block] = codeLength;
        } else if (form == SCOPE_END) {
            scopeEndPlace[block] = codeLength;
        } else if (form == ELSE) {
            elsePlace[block] = codeLength;
        }
        codeLength++;
    }

    private void pushPiece(int b) {
        if (has(loopSet, b)) {
            push(LOOP_END, b);
        }
        // A merge may lead on to a later one, so the scope of the later one is the outer one.
        for (int i = orderedCount - 1; i >= 0; i--) {
            if (isMergeUnder(b, order[i])) {
                push(PIECE, order[i]);
                push(SCOPE_END, order[i]);
            }
        }
        pushWay(b);
        push(DO, b);
        for (int i = 0; i < orderedCount; i++) {
            if (isMergeUnder(b, order[i])) {
                push(SCOPE, order[i]);
            }
        }
        if (has(loopSet, b)) {
            push(LOOP, b);
        }
    }

    // The dominators of a block are a chain: what is left of it without the block itself is
    // the chain of the dominator that is nearest to it.
    private boolean isMergeUnder(int b, int merge) {
        return has(mergeSet, merge) && dominatorSet[b] == (dominatorSet[merge] & ~(1 << merge));
    }

    private void pushWay(int b) {
        if (wayKind[b] == STOP) {
            push(FINISH, b);
            return;
        }
        int first = wayFirst[b];
        int firstForm = edgeForm(b, first);
        // A test whose ways name one block is one edge: that block's code is written once.
        if (wayKind[b] == GO || first == waySecond[b]) {
            push(firstForm, first);
            return;
        }
        int second = waySecond[b];
        int secondForm = edgeForm(b, second);
        push(IF_END, b);
        push(secondForm, second);
        push(ELSE, b);
        push(firstForm, first);
        push(IF, b);
    }

    private int edgeForm(int from, int to) {
        if (has(dominatorSet[from], to)) {
            return AGAIN;
        }
        return has(mergeSet, to) ? LEAVE : PIECE;
    }

    private void forgetRun() {
        for (int r = 0; r < REGISTERS; r++) {
            registers[r] = 0;
        }
        for (int b = 0; b < BLOCKS; b++) {
            visitCounts[b] = 0;
        }
        outCount = 0;
        carriedCount = 0;
        lastOutcome = NONE;
    }

    private void runCode() {
        int place = 0;
        for (int step = 0; step < STEP_LIMIT && lastOutcome == NONE && place < codeLength; step++) {
            place = placeAfter(place);
        }
    }

    // Every piece ends in LEAVE, AGAIN or FINISH. So ELSE, IF_END and LOOP_END are never come
    // to from above, and LOOP and SCOPE are only marks that a run passes.
    private int placeAfter(int place) {
        int block = codeBlock[place];
        switch (codeForm[place]) {
            case DO:
                carryOut(block);
                return place + 1;
            case IF:
                return registers[wayKind[block] - TEST] > 0 ? place + 1 : elsePlace[block] + 1;
            case LEAVE:
                return scopeEndPlace[block] + 1;
            case AGAIN:
                return loopPlace[block];
            case FINISH:
                lastOutcome = STOPPED;
                return place;
            default:
                return place + 1;
        }
    }

    private void carryOut(int b) {
        // Only here is it known that the 80th block did not STOP.
        if (carriedCount >= RUN_LIMIT) {
            lastOutcome = TIRED;
            return;
        }
        int kind = actionKind[b];
        if (kind >= MOVE) {
            registers[kind - MOVE] = registers[actionNumber[b]];
        } else if (kind >= PUT) {
            putOut(registers[kind - PUT]);
        } else if (kind >= ADD) {
            registers[kind - ADD] += actionNumber[b];
        }
        visitCounts[b]++;
        carriedCount++;
    }

    private void putOut(int number) {
        if (outCount < RUN_LIMIT) {
            outNumbers[outCount] = number;
            outCount++;
        }
    }
}
