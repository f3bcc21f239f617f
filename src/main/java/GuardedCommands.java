/**
 * Small programs that may choose, on two numbers, and what must hold before
 * them so that something holds behind them.
 *
 * A program never changes once it is made, and the programs it is built from
 * are older than it. So all that can be asked about it is worked out when it is
 * made: its ends from each state, and the states in which it is sure.
 */
public final class GuardedCommands {
    private static final int MOST_PROGRAMS = 30;
    private static final int STATES = 64;
    private static final int ROWS = MOST_PROGRAMS * STATES;
    private static final int FORMS = 512;
    private static final int GREATEST_BOUND = 8;
    private static final long ALL_STATES = -1L;
    private static final long NO_STATES = 0L;

    /** The ends of program p from state s stand at p * STATES + s. */
    private final long[] endsFrom = new long[ROWS];
    private final long[] sureIn = new long[MOST_PROGRAMS];
    private int made;
    private long g;
    private long h;

    public GuardedCommands() {
        made = 0;
        g = NO_STATES;
        h = NO_STATES;
    }

    public int guard(int which, long condition) {
        setGuard(which, condition);
        return sizeOf(condition);
    }

    public int compare(int which, int form, int bound) {
        if (!isForm(form)) {
            return -1;
        }
        if (bound < 0 || bound > GREATEST_BOUND) {
            return -2;
        }
        long condition = statesBelow(form, bound);
        setGuard(which, condition);
        return sizeOf(condition);
    }

    public int oppose(int which) {
        long condition = which == 0 ? ~g : ~h;
        setGuard(which, condition);
        return sizeOf(condition);
    }

    public int skip() {
        if (isFull()) {
            return -1;
        }
        int row = made * STATES;
        for (int state = 0; state < STATES; state++) {
            endsFrom[row + state] = 1L << state;
        }
        return addProgram(ALL_STATES);
    }

    public int fail() {
        if (isFull()) {
            return -1;
        }
        int row = made * STATES;
        for (int state = 0; state < STATES; state++) {
            endsFrom[row + state] = NO_STATES;
        }
        return addProgram(NO_STATES);
    }

    public int assign(int which, int form) {
        if (!isForm(form)) {
            return -1;
        }
        if (isFull()) {
            return -2;
        }
        int row = made * STATES;
        for (int state = 0; state < STATES; state++) {
            int end = stateAfterAssignment(which, form, state);
            endsFrom[row + state] = 1L << end;
        }
        return addProgram(ALL_STATES);
    }

    public int sequence(int a, int b) {
        if (!isGood(a) || !isGood(b)) {
            return -1;
        }
        if (isFull()) {
            return -2;
        }
        int row = made * STATES;
        int rowOfA = a * STATES;
        for (int state = 0; state < STATES; state++) {
            endsFrom[row + state] = allEnds(b, endsFrom[rowOfA + state]);
        }
        long endsOnlyWhereBIsSure = statesEndingOnlyIn(a, sureIn[b]);
        return addProgram(sureIn[a] & endsOnlyWhereBIsSure);
    }

    public int choice(int a, int b) {
        if (!isGood(a) || !isGood(b)) {
            return -1;
        }
        if (isFull()) {
            return -2;
        }
        writeBranches(a, b);
        long unsure = unsureBranches(a, b);
        return addProgram((g | h) & ~unsure);
    }

    public int loop(int a, int b) {
        if (!isGood(a) || !isGood(b)) {
            return -1;
        }
        if (isFull()) {
            return -2;
        }
        writeBranches(a, b);
        closeSteps();
        // With finitely many states, only a loop that can come back to a state goes round forever.
        long returning = statesThatReturn();
        long unsure = unsureBranches(a, b);
        long sure = statesThatAvoid(returning | unsure);
        keepOnlyWayOut();
        return addProgram(sure);
    }

    public int programs() {
        return made;
    }

    public long ends(int program, int state) {
        if (!isGood(program) || state < 0 || state >= STATES) {
            return NO_STATES;
        }
        return endsFrom[program * STATES + state];
    }

    public long sure(int program) {
        if (!isGood(program)) {
            return NO_STATES;
        }
        return sureIn[program];
    }

    public long demand(int program, long condition) {
        if (!isGood(program)) {
            return NO_STATES;
        }
        long endingOnlyThere = statesEndingOnlyIn(program, condition);
        return sureIn[program] & endingOnlyThere;
    }

    public long weakDemand(int program, long condition) {
        if (!isGood(program)) {
            return NO_STATES;
        }
        return statesEndingOnlyIn(program, condition);
    }

    public long image(int program, long condition) {
        if (!isGood(program)) {
            return NO_STATES;
        }
        return allEnds(program, condition);
    }

    public int refines(int a, int b) {
        if (!isGood(a) || !isGood(b)) {
            return -1;
        }
        // The sharpest condition for a state is the set of a's own ends from it, so no other one is tried.
        if ((sureIn[a] & ~sureIn[b]) != NO_STATES) {
            return 0;
        }
        int rowOfA = a * STATES;
        int rowOfB = b * STATES;
        for (int state = 0; state < STATES; state++) {
            long newEnds = endsFrom[rowOfB + state] & ~endsFrom[rowOfA + state];
            if (has(sureIn[a], state) && newEnds != NO_STATES) {
                return 0;
            }
        }
        return 1;
    }

    public int settled(int program) {
        if (!isGood(program)) {
            return -1;
        }
        int row = program * STATES;
        for (int state = 0; state < STATES; state++) {
            int size = sizeOf(endsFrom[row + state]);
            if (has(sureIn[program], state) && size != 1) {
                return 0;
            }
        }
        return 1;
    }

    public int widest(int program) {
        if (!isGood(program)) {
            return -1;
        }
        int row = program * STATES;
        int greatest = 0;
        for (int state = 0; state < STATES; state++) {
            int size = sizeOf(endsFrom[row + state]);
            if (size > greatest) {
                greatest = size;
            }
        }
        return greatest;
    }

    private boolean isGood(int program) {
        return program >= 0 && program < made;
    }

    private boolean isFull() {
        return made >= MOST_PROGRAMS;
    }

    private static boolean isForm(int form) {
        return form >= 0 && form < FORMS;
    }

    private static boolean has(long condition, int state) {
        return (condition >>> state & 1L) != 0L;
    }

    private static int sizeOf(long condition) {
        int size = 0;
        for (int state = 0; state < STATES; state++) {
            if (has(condition, state)) {
                size++;
            }
        }
        return size;
    }

    private void setGuard(int which, long condition) {
        if (which == 0) {
            g = condition;
        } else {
            h = condition;
        }
    }

    private static int valueOfForm(int form, int state) {
        int p = form >> 6;
        int q = form >> 3 & 7;
        int r = form & 7;
        int x = state >> 3;
        int y = state & 7;
        return p * x + q * y + r & 7;
    }

    private static long statesBelow(int form, int bound) {
        long condition = NO_STATES;
        for (int state = 0; state < STATES; state++) {
            int value = valueOfForm(form, state);
            if (value < bound) {
                condition |= 1L << state;
            }
        }
        return condition;
    }

    private static int stateAfterAssignment(int which, int form, int state) {
        int value = valueOfForm(form, state);
        int x = state >> 3;
        int y = state & 7;
        return which == 0 ? 8 * value + y : 8 * x + value;
    }

    /** The caller has written the ends of the new program, whose number is still made. */
    private int addProgram(long sureStates) {
        int number = made;
        sureIn[number] = sureStates;
        made = number + 1;
        return number;
    }

    private long allEnds(int program, long condition) {
        int row = program * STATES;
        long found = NO_STATES;
        for (int state = 0; state < STATES; state++) {
            if (has(condition, state)) {
                found |= endsFrom[row + state];
            }
        }
        return found;
    }

    private long statesEndingOnlyIn(int program, long condition) {
        int row = program * STATES;
        long found = NO_STATES;
        for (int state = 0; state < STATES; state++) {
            if ((endsFrom[row + state] & ~condition) == NO_STATES) {
                found |= 1L << state;
            }
        }
        return found;
    }

    /** Writes into the new program's row where one of the open branches can end. */
    private void writeBranches(int a, int b) {
        int row = made * STATES;
        int rowOfA = a * STATES;
        int rowOfB = b * STATES;
        for (int state = 0; state < STATES; state++) {
            long found = NO_STATES;
            if (has(g, state)) {
                found |= endsFrom[rowOfA + state];
            }
            if (has(h, state)) {
                found |= endsFrom[rowOfB + state];
            }
            endsFrom[row + state] = found;
        }
    }

    private long unsureBranches(int a, int b) {
        return g & ~sureIn[a] | h & ~sureIn[b];
    }

    /** Turns the new program's row from single steps into one or more steps. */
    private void closeSteps() {
        int row = made * STATES;
        // Between comes outside: after its turn, all ways that pass only through states up to it are known.
        for (int between = 0; between < STATES; between++) {
            long further = endsFrom[row + between];
            for (int state = 0; state < STATES; state++) {
                if (has(endsFrom[row + state], between)) {
                    endsFrom[row + state] |= further;
                }
            }
        }
    }

    private long statesThatReturn() {
        int row = made * STATES;
        long found = NO_STATES;
        for (int state = 0; state < STATES; state++) {
            if (has(endsFrom[row + state], state)) {
                found |= 1L << state;
            }
        }
        return found;
    }

    /** The states that are not in avoided and from which no steps lead into it. */
    private long statesThatAvoid(long avoided) {
        return statesEndingOnlyIn(made, ~avoided) & ~avoided;
    }

    /** Leaves in the new program's row the states where the loop stops, counting no step at all. */
    private void keepOnlyWayOut() {
        int row = made * STATES;
        long wayOut = ~(g | h);
        for (int state = 0; state < STATES; state++) {
            endsFrom[row + state] = (endsFrom[row + state] | 1L << state) & wayOut;
        }
    }
}
