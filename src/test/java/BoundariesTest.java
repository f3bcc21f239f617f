import java.lang.reflect.Method;
import java.util.Map;
import java.util.TreeMap;

/**
 * Each boundary case that a sentence of the document names, in a test of its own.
 * The name of a test begins with the place of its sentence: terms, or the promise
 * with its number. Every method so named is run, so none can be left out by
 * mistake. That refused calls and questions change nothing is in UnchangedTest.
 */
public final class BoundariesTest {
    private static final long ALL = -1L;
    private static final long X_IS_0 = 255L;
    private static final long Y_IS_0 = 0x0101010101010101L;
    private static final int LEAST = Integer.MIN_VALUE;
    private static final int GREATEST = Integer.MAX_VALUE;

    // Times 64, this comes round to 0, so it looks good to a program that reckons first and looks later.
    private static final int WRAPS_TO_0 = 1 << 26;

    private static final int[] NOT_0 = {1, 2, -1, 7, 8, 64, 256, 1 << 16, LEAST, GREATEST};
    private static final int[] NO_FORM = {-1, -2, 512, 513, 1024, LEAST, GREATEST};
    private static final int[] NO_BOUND = {-1, -2, 9, 10, 16, LEAST, GREATEST};
    private static final int[] NO_STATE = {-1, -2, -64, 64, 65, 128, LEAST, GREATEST};
    private static final int[] EDGE_STATES = {0, 7, 8, 31, 32, 55, 56, 63};

    private static int wrong = 0;
    private static String test = "";

    public static void main(String[] args) throws Exception {
        Map<String, Method> tests = new TreeMap<>();
        for (Method method : BoundariesTest.class.getDeclaredMethods()) {
            if (method.getName().matches("(terms|promise[0-9]+)[A-Z].*")) {
                tests.put(method.getName(), method);
            }
        }
        for (Map.Entry<String, Method> entry : tests.entrySet()) {
            test = entry.getKey();
            entry.getValue().invoke(null);
        }
        for (int number = 1; number <= 19; number++) {
            String start = "promise" + number;
            boolean tested = tests.keySet().stream().anyMatch(name -> name.matches(start + "[A-Z].*"));
            test = start;
            due("has a test", tested ? 1 : 0, 1);
        }
        System.out.println(wrong == 0 ? "all " + tests.size() + " boundaries are as due"
                : wrong + " answers are not as due");
        if (wrong != 0) {
            System.exit(1);
        }
    }

    private static void due(String what, long got, long want) {
        if (got != want) {
            wrong++;
            System.out.println(test + ": " + what + " answered " + got + ", due is " + want);
        }
    }

    private static long bit(int state) {
        return 1L << state;
    }

    private static int form(int p, int q, int r) {
        return 64 * p + 8 * q + r;
    }

    private static int state(int x, int y) {
        return 8 * x + y;
    }

    private static GuardedCommands withSkips(int count) {
        GuardedCommands c = new GuardedCommands();
        for (int number = 0; number < count; number++) {
            c.skip();
        }
        return c;
    }

    private static GuardedCommands withGuards(long g, long h) {
        GuardedCommands c = new GuardedCommands();
        c.guard(0, g);
        c.guard(1, h);
        return c;
    }

    // A choice between skip and fail ends just where the guard before the skip holds, so it tells that guard.
    private static long seenG(GuardedCommands c) {
        int skip = c.skip();
        int fail = c.fail();
        return c.image(c.choice(skip, fail), ALL);
    }

    private static long seenH(GuardedCommands c) {
        int skip = c.skip();
        int fail = c.fail();
        return c.image(c.choice(fail, skip), ALL);
    }

    private static int[] notPrograms(int count) {
        return new int[] {-1, -2, -64, count, count + 1, 31, 64, WRAPS_TO_0, -WRAPS_TO_0, LEAST, GREATEST};
    }

    // ---- What it is, and Terms ----

    private static void termsThe512thCallIsStillAnswered() {
        long[] want = {2, 8, 61, 5, 5, 5, 5, 5, 5, 5, bit(3), 0b0101L, 0b0010L, 0b0111L, bit(1) | bit(9), 0, 0, 2};
        for (int kind = 0; kind < want.length; kind++) {
            GuardedCommands c = withGuards(0b0111L, 0b0010L);
            c.skip();
            c.assign(0, form(1, 0, 1));
            c.fail();
            c.choice(0, 1);
            c.choice(0, 2);
            for (int call = 8; call <= 511; call++) {
                c.programs();
            }
            due("call 512 of kind " + kind, lastCall(c, kind), want[kind]);
        }
    }

    private static long lastCall(GuardedCommands c, int kind) {
        switch (kind) {
            case 0: return c.guard(1, 3L);
            case 1: return c.compare(0, form(1, 0, 0), 1);
            case 2: return c.oppose(0);
            case 3: return c.skip();
            case 4: return c.fail();
            case 5: return c.assign(1, 511);
            case 6: return c.sequence(4, 3);
            case 7: return c.choice(4, 3);
            case 8: return c.loop(4, 3);
            case 9: return c.programs();
            case 10: return c.ends(0, 3);
            case 11: return c.sure(4);
            case 12: return c.demand(3, bit(1) | bit(9));
            case 13: return c.weakDemand(0, 0b0111L);
            case 14: return c.image(3, 0b0010L);
            case 15: return c.refines(0, 3);
            case 16: return c.settled(3);
            default: return c.widest(3);
        }
    }

    private static void termsThe512thCallMayMakeTheLastProgram() {
        GuardedCommands c = withSkips(29);
        for (int call = 30; call <= 511; call++) {
            c.guard(0, call);
        }
        due("number of the last program", c.sequence(28, 0), 29);
    }

    private static void termsXAndYReachFrom0To7() {
        GuardedCommands c = new GuardedCommands();
        int xTo7 = c.assign(0, form(0, 0, 7));
        int yTo7 = c.assign(1, form(0, 0, 7));
        int xTo0 = c.assign(0, 0);
        int yTo0 = c.assign(1, 0);
        due("(0, 0) with x 7", c.ends(xTo7, 0), bit(56));
        due("(0, 0) with y 7", c.ends(yTo7, 0), bit(7));
        due("(0, 7) with x 7", c.ends(xTo7, 7), bit(63));
        due("(7, 0) with y 7", c.ends(yTo7, 56), bit(63));
        due("(7, 7) with x 0", c.ends(xTo0, 63), bit(7));
        due("(7, 7) with y 0", c.ends(yTo0, 63), bit(56));
        due("all states with x 7", c.image(xTo7, ALL), X_IS_0 << 56);
        due("all states with y 7", c.image(yTo7, ALL), Y_IS_0 << 7);
    }

    private static void termsAConditionHasABitForEachEdgeState() {
        for (int state : EDGE_STATES) {
            GuardedCommands c = new GuardedCommands();
            due("states of bit " + state, c.guard(0, bit(state)), 1);
            c.skip();
            int choice = c.choice(0, 0);
            due("sure at " + state, c.sure(choice), bit(state));
            due("demand for " + state, c.demand(0, bit(state)), bit(state));
            due("weak demand for " + state, c.weakDemand(0, bit(state)), bit(state));
            due("image of " + state, c.image(0, bit(state)), bit(state));
        }
    }

    private static void termsAssignmentsWrapAround() {
        GuardedCommands c = new GuardedCommands();
        int xUp = c.assign(0, form(1, 0, 1));
        int yUp = c.assign(1, form(0, 1, 1));
        int xTimes7 = c.assign(0, form(7, 0, 0));
        int yOfAll7 = c.assign(1, form(7, 7, 7));
        int xDouble = c.assign(0, form(2, 0, 0));
        int ySum = c.assign(1, form(1, 1, 0));
        due("x 6 and 1 does not wrap", c.ends(xUp, state(6, 3)), bit(state(7, 3)));
        due("x 7 and 1 wraps, and y stays", c.ends(xUp, state(7, 3)), bit(state(0, 3)));
        due("y 6 and 1 does not wrap", c.ends(yUp, state(3, 6)), bit(state(3, 7)));
        due("y 7 and 1 wraps, and x stays", c.ends(yUp, state(3, 7)), bit(state(3, 0)));
        due("7 times 7 is 1", c.ends(xTimes7, state(7, 2)), bit(state(1, 2)));
        due("7 * 7 + 7 * 7 + 7 is 1", c.ends(yOfAll7, 63), bit(state(7, 1)));
        due("2 times 3 does not wrap", c.ends(xDouble, state(3, 0)), bit(state(6, 0)));
        due("2 times 4 is 0", c.ends(xDouble, state(4, 0)), bit(0));
        due("3 and 4 does not wrap", c.ends(ySum, state(3, 4)), bit(state(3, 7)));
        due("4 and 4 is 0", c.ends(ySum, state(4, 4)), bit(state(4, 0)));
    }

    private static void termsComparisonsWrapAround() {
        GuardedCommands c = new GuardedCommands();
        due("x + 1 below 1", c.compare(0, form(1, 0, 1), 1), 8);
        due("where x + 1 is below 1", seenG(c), X_IS_0 << 56);
        due("7 * y below 2", c.compare(1, form(0, 7, 0), 2), 16);
        due("where 7 * y is below 2", seenH(c), Y_IS_0 | Y_IS_0 << 7);
        due("4 * x + 4 * y below 1", c.compare(0, form(4, 4, 0), 1), 32);
        due("where 4 * x + 4 * y is below 1", seenG(c), 0xAA55AA55AA55AA55L);
        GuardedCommands d = new GuardedCommands();
        due("7 * x + 7 * y + 7 below 2", d.compare(0, 511, 2), 16);
        due("(7, 7) is among them, since 105 is 1", seenG(d) >>> 63, 1L);
    }

    private static void termsAssignmentsReckonWithTheNumbersBefore() {
        GuardedCommands c = new GuardedCommands();
        c.assign(0, form(1, 1, 0));
        c.assign(1, form(1, 1, 0));
        due("x becomes 7 + 7", c.ends(0, 63), bit(state(6, 7)));
        due("y becomes 7 + 7", c.ends(1, 63), bit(state(7, 6)));
    }

    private static void termsChoiceFailsJustInNeitherGuard() {
        GuardedCommands c = withGuards(bit(0) | bit(62), bit(62) | bit(63));
        c.skip();
        int choice = c.choice(0, 0);
        due("sure in g or h", c.sure(choice), bit(0) | bit(62) | bit(63));
        due("no end in neither", c.image(choice, ~(bit(0) | bit(62) | bit(63))), 0L);
    }

    private static void termsLoopEndsAtOnceJustInNeitherGuard() {
        GuardedCommands c = withGuards(bit(0), bit(63));
        int fail = c.fail();
        int loop = c.loop(fail, fail);
        due("sure in neither", c.sure(loop), ~(bit(0) | bit(63)));
        due("ends in neither", c.image(loop, ALL), ~(bit(0) | bit(63)));
        due("ends where it is", c.ends(loop, 62), bit(62));
    }

    private static void termsEndsCountBesideRunsThatFail() {
        GuardedCommands c = withGuards(ALL, ALL);
        int skip = c.skip();
        int fail = c.fail();
        int mayFail = c.choice(skip, fail);
        due("its ends", c.ends(mayFail, 63), bit(63));
        due("not sure", c.sure(mayFail), 0L);
        due("least demand", c.demand(mayFail, ALL), 0L);
        due("weak demand", c.weakDemand(mayFail, bit(63)), bit(63));
    }

    private static void termsEndsCountBesideRunsThatGoOnForever() {
        GuardedCommands c = withGuards(bit(1), bit(1));
        int skip = c.skip();
        int yDown = c.assign(1, form(0, 1, 7));
        int loop = c.loop(skip, yDown);
        due("its ends", c.ends(loop, 1), bit(0));
        due("not sure just there", c.sure(loop), ~bit(1));
        due("weak demand", c.weakDemand(loop, bit(0)), bit(0) | bit(1));
        due("least demand", c.demand(loop, bit(0)), bit(0));
    }

    private static void termsSurenessAsksAllRuns() {
        GuardedCommands c = withGuards(ALL, ALL);
        int skip = c.skip();
        int yUp = c.assign(1, form(0, 1, 1));
        int either = c.choice(skip, yUp);
        c.guard(0, ~bit(63));
        c.guard(1, 0L);
        int notAt63 = c.choice(skip, skip);
        int both = c.sequence(either, notAt63);
        due("one of two ways fails from 62 and from 63", c.sure(both), ~(bit(62) | bit(63)));
        due("the other way from 62", c.ends(both, 62), bit(62));
        due("the other way from 63", c.ends(both, 63), bit(56));
    }

    // ---- Promise 1 ----

    private static void promise1NoProgramsAtFirst() {
        GuardedCommands c = new GuardedCommands();
        due("programs", c.programs(), 0);
        due("ends of 0", c.ends(0, 0), 0L);
        due("sure of 0", c.sure(0), 0L);
        due("demand of 0", c.demand(0, ALL), 0L);
        due("weak demand of 0", c.weakDemand(0, ALL), 0L);
        due("image of 0", c.image(0, ALL), 0L);
        due("refines of 0 and 0", c.refines(0, 0), -1);
        due("settled of 0", c.settled(0), -1);
        due("widest of 0", c.widest(0), -1);
        due("sequence of 0 and 0", c.sequence(0, 0), -1);
        due("choice of 0 and 0", c.choice(0, 0), -1);
        due("loop of 0 and 0", c.loop(0, 0), -1);
        due("programs after that", c.programs(), 0);
    }

    private static void promise1GIsEmptyAtFirst() {
        due("g seen by a choice", seenG(new GuardedCommands()), 0L);
        due("states outside of g", new GuardedCommands().oppose(0), 64);
    }

    private static void promise1HIsEmptyAtFirst() {
        due("h seen by a choice", seenH(new GuardedCommands()), 0L);
        due("states outside of h", new GuardedCommands().oppose(1), 64);
    }

    private static void promise1ALoopOfANewObjectEndsAtOnce() {
        GuardedCommands c = new GuardedCommands();
        c.fail();
        due("number", c.loop(0, 0), 1);
        due("sure", c.sure(1), ALL);
        for (int state = 0; state < 64; state++) {
            due("ends from " + state, c.ends(1, state), bit(state));
        }
    }

    // ---- Promise 2 ----

    private static void promise2EmptyCondition() {
        GuardedCommands c = withGuards(ALL, ALL);
        due("g of no states", c.guard(0, 0L), 0);
        due("h of no states", c.guard(1, 0L), 0);
        due("g", seenG(c), 0L);
        due("h", seenH(c), 0L);
    }

    private static void promise2FullCondition() {
        GuardedCommands c = new GuardedCommands();
        due("g of all states", c.guard(0, ALL), 64);
        due("h of all states", c.guard(1, ALL), 64);
        due("g", seenG(c), ALL);
        due("h", seenH(c), ALL);
    }

    private static void promise2CountsAtTheEdges() {
        GuardedCommands c = new GuardedCommands();
        for (int state : EDGE_STATES) {
            due("only " + state, c.guard(0, bit(state)), 1);
            due("all but " + state, c.guard(0, ~bit(state)), 63);
        }
        due("the lower half", c.guard(0, 0xFFFFFFFFL), 32);
        due("the upper half", c.guard(0, ~0xFFFFFFFFL), 32);
        due("the least long", c.guard(0, Long.MIN_VALUE), 1);
        due("the greatest long", c.guard(0, Long.MAX_VALUE), 63);
    }

    private static void promise2Which0IsG() {
        GuardedCommands c = withGuards(3L, 5L);
        due("states", c.guard(0, bit(63)), 1);
        due("g", seenG(c), bit(63));
        due("h", seenH(c), 5L);
    }

    private static void promise2AnyOtherWhichIsH() {
        for (int which : NOT_0) {
            GuardedCommands c = withGuards(3L, 5L);
            due("states by which " + which, c.guard(which, bit(63)), 1);
            due("g by which " + which, seenG(c), 3L);
            due("h by which " + which, seenH(c), bit(63));
        }
    }

    private static void promise2TheNextChoicesAndLoopsTakeIt() {
        GuardedCommands c = withGuards(bit(63), 0L);
        int skip = c.skip();
        int before = c.choice(skip, skip);
        int loopBefore = c.loop(skip, skip);
        c.guard(0, bit(0));
        int first = c.choice(skip, skip);
        int second = c.choice(skip, skip);
        int loop = c.loop(skip, skip);
        due("a choice before", c.sure(before), bit(63));
        due("a loop before", c.sure(loopBefore), ~bit(63));
        due("the first choice behind", c.sure(first), bit(0));
        due("the second choice behind", c.sure(second), bit(0));
        due("a loop behind", c.sure(loop), ~bit(0));
    }

    // ---- Promise 3 ----

    private static void promise3FormsOutside0To511AreRefused() {
        GuardedCommands c = withGuards(3L, 5L);
        for (int form : NO_FORM) {
            due("g by form " + form, c.compare(0, form, 4), -1);
            due("h by form " + form, c.compare(1, form, 4), -1);
        }
        due("g", seenG(c), 3L);
        due("h", seenH(c), 5L);
    }

    private static void promise3Form0IsTaken() {
        GuardedCommands c = new GuardedCommands();
        due("0 below 1", c.compare(0, 0, 1), 64);
        due("g", seenG(c), ALL);
        due("0 below 0", c.compare(1, 0, 0), 0);
        due("h", seenH(c), 0L);
    }

    private static void promise3Form511IsTaken() {
        GuardedCommands c = new GuardedCommands();
        due("7 * x + 7 * y + 7 below 1", c.compare(0, 511, 1), 8);
        long want = 0L;
        for (int x = 0; x < 8; x++) {
            want |= bit(state(x, 7 - x));
        }
        due("g", seenG(c), want);
    }

    private static void promise3BoundsOutside0To8AreRefused() {
        GuardedCommands c = withGuards(3L, 5L);
        for (int bound : NO_BOUND) {
            due("g by bound " + bound, c.compare(0, 0, bound), -2);
            due("h by bound " + bound, c.compare(1, 511, bound), -2);
        }
        due("g", seenG(c), 3L);
        due("h", seenH(c), 5L);
    }

    private static void promise3Bound0IsTakenAndEmpty() {
        GuardedCommands c = withGuards(ALL, ALL);
        due("x below 0", c.compare(0, form(1, 0, 0), 0), 0);
        due("g", seenG(c), 0L);
        due("y below 0", c.compare(1, form(0, 1, 0), 0), 0);
        due("h", seenH(c), 0L);
    }

    private static void promise3Bound8IsTakenAndFull() {
        GuardedCommands c = new GuardedCommands();
        due("x below 8", c.compare(0, form(1, 0, 0), 8), 64);
        due("g", seenG(c), ALL);
        due("y below 8", c.compare(1, form(0, 1, 0), 8), 64);
        due("h", seenH(c), ALL);
    }

    private static void promise3LessThanLeavesOutTheBound() {
        for (int bound = 0; bound <= 8; bound++) {
            GuardedCommands c = new GuardedCommands();
            due("x below " + bound, c.compare(0, form(1, 0, 0), bound), 8 * bound);
            due("g", seenG(c), bound == 8 ? ALL : bit(8 * bound) - 1L);
            for (int value = 0; value < 8; value++) {
                due(value + " below " + bound, c.compare(0, value, bound), value < bound ? 64 : 0);
            }
        }
    }

    private static void promise3FormComesBeforeBound() {
        GuardedCommands c = new GuardedCommands();
        for (int form : NO_FORM) {
            for (int bound : NO_BOUND) {
                due("form " + form + " and bound " + bound, c.compare(0, form, bound), -1);
            }
        }
    }

    private static void promise3Which0IsG() {
        GuardedCommands c = withGuards(3L, 5L);
        due("states", c.compare(0, form(1, 0, 0), 1), 8);
        due("g", seenG(c), X_IS_0);
        due("h", seenH(c), 5L);
    }

    private static void promise3AnyOtherWhichIsH() {
        for (int which : NOT_0) {
            GuardedCommands c = withGuards(3L, 5L);
            due("states by which " + which, c.compare(which, form(0, 1, 0), 1), 8);
            due("g by which " + which, seenG(c), 3L);
            due("h by which " + which, seenH(c), Y_IS_0);
        }
    }

    // ---- Promise 4 ----

    private static void promise4EmptyBecomesFull() {
        GuardedCommands c = new GuardedCommands();
        due("states of g", c.oppose(0), 64);
        due("g", seenG(c), ALL);
        due("h beside it", seenH(c), 0L);
        due("states of h", c.oppose(1), 64);
        due("h", seenH(c), ALL);
    }

    private static void promise4FullBecomesEmpty() {
        GuardedCommands c = withGuards(ALL, ALL);
        due("states of g", c.oppose(0), 0);
        due("g", seenG(c), 0L);
        due("h beside it", seenH(c), ALL);
        due("states of h", c.oppose(1), 0);
        due("h", seenH(c), 0L);
    }

    private static void promise4EdgeStates() {
        for (int state : EDGE_STATES) {
            GuardedCommands c = withGuards(bit(state), ~bit(state));
            due("all but " + state, c.oppose(0), 63);
            due("only " + state, c.oppose(1), 1);
            due("g without " + state, seenG(c), ~bit(state));
            due("h with " + state, seenH(c), bit(state));
        }
    }

    private static void promise4TwiceIsAsBefore() {
        GuardedCommands c = withGuards(3L, bit(63));
        c.oppose(0);
        due("g twice", c.oppose(0), 2);
        c.oppose(1);
        due("h twice", c.oppose(1), 1);
        due("g", seenG(c), 3L);
        due("h", seenH(c), bit(63));
    }

    private static void promise4AnyOtherWhichIsH() {
        for (int which : NOT_0) {
            GuardedCommands c = withGuards(3L, 5L);
            due("states by which " + which, c.oppose(which), 62);
            due("g by which " + which, seenG(c), 3L);
            due("h by which " + which, seenH(c), ~5L);
        }
    }

    // ---- Promises 5 to 7 ----

    private static void promise5FirstAndLastSkip() {
        due("the first", new GuardedCommands().skip(), 0);
        GuardedCommands c = withSkips(29);
        due("the last", c.skip(), 29);
        due("programs", c.programs(), 30);
        for (int state = 0; state < 64; state++) {
            due("ends of the last from " + state, c.ends(29, state), bit(state));
        }
        due("sure of the last", c.sure(29), ALL);
    }

    private static void promise5FullListRefuses() {
        GuardedCommands c = withSkips(30);
        due("skip", c.skip(), -1);
        due("skip again", c.skip(), -1);
        due("programs", c.programs(), 30);
    }

    private static void promise6FirstAndLastFail() {
        due("the first", new GuardedCommands().fail(), 0);
        GuardedCommands c = withSkips(29);
        due("the last", c.fail(), 29);
        due("programs", c.programs(), 30);
        due("ends of the last", c.image(29, ALL), 0L);
        due("sure of the last", c.sure(29), 0L);
    }

    private static void promise6FullListRefuses() {
        GuardedCommands c = withSkips(30);
        due("fail", c.fail(), -1);
        due("fail again", c.fail(), -1);
        due("programs", c.programs(), 30);
        due("the last is still a skip", c.sure(29), ALL);
    }

    private static void promise7FirstAndLastAssignment() {
        due("the first", new GuardedCommands().assign(0, 0), 0);
        GuardedCommands c = withSkips(29);
        due("the last", c.assign(1, form(0, 1, 1)), 29);
        due("programs", c.programs(), 30);
        due("ends of the last from 63", c.ends(29, 63), bit(56));
        due("sure of the last", c.sure(29), ALL);
    }

    private static void promise7FullListRefuses() {
        GuardedCommands c = withSkips(30);
        due("to x", c.assign(0, 0), -2);
        due("to y", c.assign(1, 511), -2);
        due("programs", c.programs(), 30);
        due("the last is still a skip", c.ends(29, 63), bit(63));
    }

    private static void promise7FormsOutside0To511AreRefused() {
        GuardedCommands c = new GuardedCommands();
        for (int form : NO_FORM) {
            due("x by form " + form, c.assign(0, form), -1);
            due("y by form " + form, c.assign(1, form), -1);
        }
        due("programs", c.programs(), 0);
    }

    private static void promise7Form0IsTaken() {
        GuardedCommands c = new GuardedCommands();
        due("x by form 0", c.assign(0, 0), 0);
        due("y by form 0", c.assign(1, 0), 1);
        due("x is 0", c.image(0, ALL), X_IS_0);
        due("y is 0", c.image(1, ALL), Y_IS_0);
    }

    private static void promise7Form511IsTaken() {
        GuardedCommands c = new GuardedCommands();
        due("x by form 511", c.assign(0, 511), 0);
        due("y by form 511", c.assign(1, 511), 1);
        due("x from (0, 0)", c.ends(0, 0), bit(56));
        due("y from (0, 0)", c.ends(1, 0), bit(7));
        due("x from (7, 7)", c.ends(0, 63), bit(15));
        due("y from (7, 7)", c.ends(1, 63), bit(57));
    }

    private static void promise7EachPartOfAFormReaches7() {
        GuardedCommands c = new GuardedCommands();
        due("p 7", c.assign(0, form(7, 0, 0)), 0);
        due("q 7", c.assign(0, form(0, 7, 0)), 1);
        due("r 7", c.assign(0, form(0, 0, 7)), 2);
        due("p 7 of (3, 5)", c.ends(0, state(3, 5)), bit(state(5, 5)));
        due("q 7 of (3, 5)", c.ends(1, state(3, 5)), bit(state(3, 5)));
        due("r 7 of (3, 5)", c.ends(2, state(3, 5)), bit(state(7, 5)));
    }

    private static void promise7FormComesBeforeTheFullList() {
        GuardedCommands c = withSkips(30);
        for (int form : NO_FORM) {
            due("form " + form, c.assign(0, form), -1);
            due("form " + form + " to y", c.assign(1, form), -1);
        }
    }

    private static void promise7AnyOtherWhichIsY() {
        for (int which : NOT_0) {
            GuardedCommands c = new GuardedCommands();
            c.assign(which, form(0, 0, 7));
            due("which " + which, c.ends(0, 0), bit(7));
        }
        GuardedCommands d = new GuardedCommands();
        d.assign(0, form(0, 0, 7));
        due("which 0", d.ends(0, 0), bit(56));
    }

    // ---- Promises 8 to 10 ----

    private static int makeOfTwo(GuardedCommands c, int promise, int a, int b) {
        switch (promise) {
            case 8: return c.sequence(a, b);
            case 9: return c.choice(a, b);
            default: return c.loop(a, b);
        }
    }

    private static void partsThatAreNotGoodAreRefused(int promise) {
        for (int count = 1; count <= 29; count += 14) {
            GuardedCommands c = withSkips(count);
            for (int bad : notPrograms(count)) {
                due("a " + bad + " of " + count, makeOfTwo(c, promise, bad, 0), -1);
                due("b " + bad + " of " + count, makeOfTwo(c, promise, 0, bad), -1);
                due("both " + bad + " of " + count, makeOfTwo(c, promise, bad, bad), -1);
            }
            due("programs", c.programs(), count);
        }
    }

    private static void firstAndLastPartsAreGood(int promise) {
        GuardedCommands c = withSkips(3);
        due("last and first", makeOfTwo(c, promise, 2, 0), 3);
        due("first and the new last", makeOfTwo(c, promise, 0, 3), 4);
        due("one twice", makeOfTwo(c, promise, 4, 4), 5);
        due("programs", c.programs(), 6);
    }

    private static void partsComeBeforeTheFullList(int promise) {
        GuardedCommands c = withSkips(30);
        for (int bad : notPrograms(30)) {
            due("a " + bad, makeOfTwo(c, promise, bad, 29), -1);
            due("b " + bad, makeOfTwo(c, promise, 29, bad), -1);
            due("both " + bad, makeOfTwo(c, promise, bad, bad), -1);
        }
    }

    private static void fullListRefuses(int promise) {
        GuardedCommands c = withSkips(30);
        due("first and first", makeOfTwo(c, promise, 0, 0), -2);
        due("last and last", makeOfTwo(c, promise, 29, 29), -2);
        due("first and last", makeOfTwo(c, promise, 0, 29), -2);
        due("programs", c.programs(), 30);
        due("the last is still a skip", c.ends(29, 63), bit(63));
    }

    private static void promise8PartsThatAreNotGoodAreRefused() {
        partsThatAreNotGoodAreRefused(8);
    }

    private static void promise8FirstAndLastPartsAreGood() {
        firstAndLastPartsAreGood(8);
    }

    private static void promise8PartsComeBeforeTheFullList() {
        partsComeBeforeTheFullList(8);
    }

    private static void promise8FullListRefuses() {
        fullListRefuses(8);
    }

    private static void promise8LastSequence() {
        GuardedCommands c = withSkips(27);
        int xUp = c.assign(0, form(1, 0, 1));
        int yUp = c.assign(1, form(0, 1, 1));
        due("number", c.sequence(xUp, yUp), 29);
        due("programs", c.programs(), 30);
        due("ends from 63", c.ends(29, 63), bit(0));
        due("ends from 0", c.ends(29, 0), bit(9));
        due("sure", c.sure(29), ALL);
    }

    private static void promise9PartsThatAreNotGoodAreRefused() {
        partsThatAreNotGoodAreRefused(9);
    }

    private static void promise9FirstAndLastPartsAreGood() {
        firstAndLastPartsAreGood(9);
    }

    private static void promise9PartsComeBeforeTheFullList() {
        partsComeBeforeTheFullList(9);
    }

    private static void promise9FullListRefuses() {
        fullListRefuses(9);
    }

    private static void promise9LastChoice() {
        GuardedCommands c = withSkips(28);
        int xUp = c.assign(0, form(1, 0, 1));
        c.guard(0, bit(63));
        c.guard(1, bit(63) | bit(0));
        due("number", c.choice(0, xUp), 29);
        due("programs", c.programs(), 30);
        due("ends from 63", c.ends(29, 63), bit(63) | bit(7));
        due("ends from 0", c.ends(29, 0), bit(8));
        due("ends from 1", c.ends(29, 1), 0L);
        due("sure", c.sure(29), bit(63) | bit(0));
    }

    private static void promise9BothGuardsEmpty() {
        GuardedCommands c = new GuardedCommands();
        c.skip();
        due("number", c.choice(0, 0), 1);
        due("ends", c.image(1, ALL), 0L);
        due("sure", c.sure(1), 0L);
    }

    private static void promise9OneGuardEmpty() {
        GuardedCommands c = withGuards(ALL, 0L);
        int skip = c.skip();
        int fail = c.fail();
        due("a alone is sure", c.sure(c.choice(skip, fail)), ALL);
        due("a alone fails", c.sure(c.choice(fail, skip)), 0L);
        GuardedCommands d = withGuards(0L, ALL);
        d.skip();
        d.fail();
        due("b alone is sure", d.sure(d.choice(fail, skip)), ALL);
        due("b alone fails", d.sure(d.choice(skip, fail)), 0L);
    }

    private static void promise9BothGuardsFull() {
        GuardedCommands c = withGuards(ALL, ALL);
        int skip = c.skip();
        int xUp = c.assign(0, form(1, 0, 1));
        int choice = c.choice(skip, xUp);
        for (int state = 0; state < 64; state++) {
            due("ends from " + state, c.ends(choice, state), bit(state) | bit((state + 8) % 64));
        }
        due("sure", c.sure(choice), ALL);
    }

    private static void promise10PartsThatAreNotGoodAreRefused() {
        partsThatAreNotGoodAreRefused(10);
    }

    private static void promise10FirstAndLastPartsAreGood() {
        firstAndLastPartsAreGood(10);
    }

    private static void promise10PartsComeBeforeTheFullList() {
        partsComeBeforeTheFullList(10);
    }

    private static void promise10FullListRefuses() {
        fullListRefuses(10);
    }

    private static void promise10LastLoop() {
        GuardedCommands c = withSkips(28);
        int yUp = c.assign(1, form(0, 1, 1));
        c.guard(0, bit(62));
        c.guard(1, bit(63));
        due("number", c.loop(yUp, yUp), 29);
        due("programs", c.programs(), 30);
        due("ends from 62", c.ends(29, 62), bit(56));
        due("ends from 63", c.ends(29, 63), bit(56));
        due("ends from 61", c.ends(29, 61), bit(61));
        due("sure", c.sure(29), ALL);
    }

    private static void promise10BothGuardsEmpty() {
        GuardedCommands c = new GuardedCommands();
        int fail = c.fail();
        int loop = c.loop(fail, fail);
        due("sure", c.sure(loop), ALL);
        due("ends from 0", c.ends(loop, 0), bit(0));
        due("ends from 63", c.ends(loop, 63), bit(63));
    }

    private static void promise10AFullGuardNeverEnds() {
        for (int full = 0; full < 2; full++) {
            GuardedCommands c = withGuards(full == 0 ? ALL : 0L, full == 0 ? 0L : ALL);
            int xUp = c.assign(0, form(1, 0, 1));
            int loop = c.loop(xUp, xUp);
            due("ends", c.image(loop, ALL), 0L);
            due("sure", c.sure(loop), 0L);
            due("weak demand for nothing", c.weakDemand(loop, 0L), ALL);
        }
    }

    private static void promise10GuardsThatAreFullTogetherNeverEnd() {
        GuardedCommands c = withGuards(X_IS_0, ~X_IS_0);
        int xUp = c.assign(0, form(1, 0, 1));
        int loop = c.loop(xUp, xUp);
        due("ends", c.image(loop, ALL), 0L);
        due("sure", c.sure(loop), 0L);
    }

    private static void promise10OneStateIsLeftToEndIn() {
        for (int last : EDGE_STATES) {
            GuardedCommands c = withGuards(~bit(last), ~bit(last));
            int xUp = c.assign(0, form(1, 0, 1));
            int yUp = c.assign(1, form(0, 1, 1));
            int loop = c.loop(xUp, yUp);
            for (int state : EDGE_STATES) {
                due("ends from " + state, c.ends(loop, state), bit(last));
            }
            due("it may go round elsewhere", c.sure(loop), bit(last));
        }
    }

    private static void promise10AStepToItselfGoesOnForever() {
        for (int state : EDGE_STATES) {
            GuardedCommands c = withGuards(bit(state), 0L);
            c.skip();
            int loop = c.loop(0, 0);
            due("ends from " + state, c.ends(loop, state), 0L);
            due("sure but at " + state, c.sure(loop), ~bit(state));
        }
    }

    private static void promise10TheWayMayPassThroughAnyEdgeState() {
        for (int middle : EDGE_STATES) {
            int x = middle / 8;
            int y = middle % 8;
            int before = state(x, (y + 7) % 8);
            int behind = state(x, (y + 1) % 8);
            GuardedCommands c = withGuards(bit(before), bit(middle));
            int yUp = c.assign(1, form(0, 1, 1));
            int loop = c.loop(yUp, yUp);
            due("ends by way of " + middle, c.ends(loop, before), bit(behind));
            due("sure by way of " + middle, c.sure(loop), ALL);
            int fail = c.fail();
            int stuck = c.loop(yUp, fail);
            due("no end beyond a fail in " + middle, c.ends(stuck, before), 0L);
            due("not sure before a fail in " + middle, c.sure(stuck), ~(bit(before) | bit(middle)));
        }
    }

    private static void promise10ABodyThatIsNotSureJustOnce() {
        GuardedCommands c = withGuards(~bit(63), 0L);
        int notAt63 = c.choice(c.skip(), 0);
        int yUp = c.assign(1, form(0, 1, 1));
        int step = c.sequence(notAt63, yUp);
        c.guard(0, X_IS_0 << 56 ^ bit(56));
        int loop = c.loop(step, step);
        due("not sure on the way to 63", c.sure(loop), ~(X_IS_0 << 56 ^ bit(56)));
        due("no end on the way to 63", c.ends(loop, 57), 0L);
    }

    // ---- Promise 11 ----

    private static void promise11From0To30() {
        GuardedCommands c = new GuardedCommands();
        due("at first", c.programs(), 0);
        for (int number = 0; number < 30; number++) {
            due("number", c.skip(), number);
            due("programs", c.programs(), number + 1);
        }
        due("one too many", c.skip(), -1);
        due("at last", c.programs(), 30);
    }

    private static void promise11EveryMakerCounts() {
        GuardedCommands c = new GuardedCommands();
        c.skip();
        c.fail();
        due("behind skip and fail", c.programs(), 2);
        c.assign(0, 0);
        due("behind assign", c.programs(), 3);
        c.sequence(0, 0);
        due("behind sequence", c.programs(), 4);
        c.choice(0, 0);
        due("behind choice", c.programs(), 5);
        c.loop(0, 0);
        due("behind loop", c.programs(), 6);
        c.guard(0, 1L);
        c.compare(0, 0, 0);
        c.oppose(0);
        due("behind guards", c.programs(), 6);
    }

    // ---- Promises 12 to 16 ----

    private static void promise12StatesOutside0To63() {
        GuardedCommands c = withSkips(3);
        for (int state : NO_STATE) {
            for (int program = 0; program < 3; program++) {
                due("state " + state + " of " + program, c.ends(program, state), 0L);
            }
        }
    }

    private static void promise12States0And63() {
        GuardedCommands c = withSkips(3);
        for (int program = 0; program < 3; program++) {
            due("state 0 of " + program, c.ends(program, 0), bit(0));
            due("state 63 of " + program, c.ends(program, 63), bit(63));
        }
    }

    private static void promise12ProgramsThatAreNotGood() {
        for (int count = 0; count <= 30; count += 10) {
            GuardedCommands c = withSkips(count);
            for (int bad : notPrograms(count)) {
                due("program " + bad + " of " + count, c.ends(bad, 0), 0L);
                due("program " + bad + " of " + count + " at 63", c.ends(bad, 63), 0L);
            }
        }
    }

    private static void promise12NeitherIsGood() {
        GuardedCommands c = withSkips(2);
        due("one too small, one too large", c.ends(-1, 64), 0L);
        due("one too large, one too small", c.ends(2, -64), 0L);
        due("both too large", c.ends(2, 64), 0L);
        due("both too small", c.ends(-1, -1), 0L);
    }

    private static void promise12FirstAndLastProgram() {
        GuardedCommands c = withSkips(30);
        due("the first", c.ends(0, 63), bit(63));
        due("the last", c.ends(29, 63), bit(63));
    }

    private static void promise13ProgramsThatAreNotGood() {
        for (int count = 0; count <= 30; count += 10) {
            GuardedCommands c = withSkips(count);
            for (int bad : notPrograms(count)) {
                due("program " + bad + " of " + count, c.sure(bad), 0L);
            }
        }
    }

    private static void promise13FirstAndLastProgram() {
        GuardedCommands c = withSkips(30);
        due("the first", c.sure(0), ALL);
        due("the last", c.sure(29), ALL);
    }

    private static void promise13NowhereAndEverywhere() {
        GuardedCommands c = new GuardedCommands();
        c.fail();
        c.skip();
        due("nowhere", c.sure(0), 0L);
        due("everywhere", c.sure(1), ALL);
    }

    private static void promise14ProgramsThatAreNotGood() {
        for (int count = 0; count <= 30; count += 10) {
            GuardedCommands c = withSkips(count);
            for (int bad : notPrograms(count)) {
                due("program " + bad + " of " + count, c.demand(bad, ALL), 0L);
            }
        }
    }

    private static void promise14FirstAndLastProgram() {
        GuardedCommands c = withSkips(30);
        due("the first", c.demand(0, 5L), 5L);
        due("the last", c.demand(29, 5L), 5L);
    }

    private static void promise14EmptyCondition() {
        GuardedCommands c = withGuards(ALL, 0L);
        c.skip();
        c.fail();
        c.loop(0, 0);
        for (int program = 0; program < 3; program++) {
            due("for nothing, program " + program, c.demand(program, 0L), 0L);
        }
    }

    private static void promise14FullConditionAsksOnlyToBeSure() {
        GuardedCommands c = withGuards(bit(63), bit(62));
        int skip = c.skip();
        int fail = c.fail();
        int choice = c.choice(skip, fail);
        due("skip", c.demand(skip, ALL), ALL);
        due("fail", c.demand(fail, ALL), 0L);
        due("a choice that fails at 62", c.demand(choice, ALL), bit(63));
    }

    private static void promise14OneEndOutsideIsEnough() {
        GuardedCommands c = withGuards(ALL, ALL);
        int skip = c.skip();
        int xUp = c.assign(0, form(1, 0, 1));
        int either = c.choice(skip, xUp);
        due("both ends of 55", c.demand(either, bit(55) | bit(63)), bit(55));
        due("one end of 55", c.demand(either, bit(55)), 0L);
        due("the other end of 55", c.demand(either, bit(63)), 0L);
        due("all but one end", c.demand(either, ~bit(63)), ~(bit(63) | bit(55)));
    }

    private static void promise15ProgramsThatAreNotGood() {
        for (int count = 0; count <= 30; count += 10) {
            GuardedCommands c = withSkips(count);
            for (int bad : notPrograms(count)) {
                due("program " + bad + " of " + count, c.weakDemand(bad, ALL), 0L);
                due("program " + bad + " for nothing", c.weakDemand(bad, 0L), 0L);
            }
        }
    }

    private static void promise15FirstAndLastProgram() {
        GuardedCommands c = withSkips(30);
        due("the first", c.weakDemand(0, 5L), 5L);
        due("the last", c.weakDemand(29, 5L), 5L);
    }

    private static void promise15EmptyConditionHasTheStatesWithoutEnds() {
        GuardedCommands c = withGuards(bit(0), bit(63));
        int skip = c.skip();
        int fail = c.fail();
        int choice = c.choice(skip, fail);
        int loop = c.loop(skip, fail);
        due("skip", c.weakDemand(skip, 0L), 0L);
        due("fail", c.weakDemand(fail, 0L), ALL);
        due("a choice that ends only from 0", c.weakDemand(choice, 0L), ~bit(0));
        due("a loop without ends from 0 and 63", c.weakDemand(loop, 0L), bit(0) | bit(63));
    }

    private static void promise15FullConditionHasAllStates() {
        GuardedCommands c = withGuards(bit(0), bit(63));
        c.skip();
        c.fail();
        c.choice(0, 1);
        c.loop(0, 1);
        for (int program = 0; program < 4; program++) {
            due("program " + program, c.weakDemand(program, ALL), ALL);
        }
    }

    private static void promise16ProgramsThatAreNotGood() {
        for (int count = 0; count <= 30; count += 10) {
            GuardedCommands c = withSkips(count);
            for (int bad : notPrograms(count)) {
                due("program " + bad + " of " + count, c.image(bad, ALL), 0L);
            }
        }
    }

    private static void promise16FirstAndLastProgram() {
        GuardedCommands c = withSkips(30);
        due("the first", c.image(0, 5L), 5L);
        due("the last", c.image(29, 5L), 5L);
    }

    private static void promise16EmptyCondition() {
        GuardedCommands c = withSkips(1);
        c.fail();
        due("skip", c.image(0, 0L), 0L);
        due("fail", c.image(1, 0L), 0L);
    }

    private static void promise16FullCondition() {
        GuardedCommands c = withSkips(1);
        c.fail();
        c.assign(0, form(0, 0, 7));
        due("skip", c.image(0, ALL), ALL);
        due("fail", c.image(1, ALL), 0L);
        due("x becomes 7", c.image(2, ALL), X_IS_0 << 56);
    }

    // ---- Promise 17 ----

    private static void promise17ProgramsThatAreNotGood() {
        for (int count = 0; count <= 30; count += 10) {
            GuardedCommands c = withSkips(count);
            for (int bad : notPrograms(count)) {
                due("a " + bad + " of " + count, c.refines(bad, 0), -1);
                due("b " + bad + " of " + count, c.refines(0, bad), -1);
                due("both " + bad + " of " + count, c.refines(bad, bad), -1);
            }
        }
    }

    private static void promise17FirstAndLastProgram() {
        GuardedCommands c = withSkips(29);
        c.fail();
        due("first and last", c.refines(0, 29), 0);
        due("last and first", c.refines(29, 0), 1);
        due("last and last", c.refines(29, 29), 1);
    }

    private static void promise17ALeastDemandThatIsAlwaysEmpty() {
        GuardedCommands c = withGuards(ALL, ALL);
        int skip = c.skip();
        int fail = c.fail();
        int forever = c.loop(skip, skip);
        due("fail by skip", c.refines(fail, skip), 1);
        due("fail by forever", c.refines(fail, forever), 1);
        due("forever by fail", c.refines(forever, fail), 1);
        due("forever by skip", c.refines(forever, skip), 1);
        due("skip by forever", c.refines(skip, forever), 0);
    }

    private static void promise17OneStateLess() {
        for (int state : EDGE_STATES) {
            GuardedCommands c = withGuards(~bit(state), 0L);
            int skip = c.skip();
            int less = c.choice(skip, skip);
            due("b is not sure at " + state, c.refines(skip, less), 0);
            due("a is not sure at " + state, c.refines(less, skip), 1);
        }
    }

    private static void promise17OneEndMore() {
        for (int state : EDGE_STATES) {
            GuardedCommands c = withGuards(ALL, bit(state));
            int skip = c.skip();
            int yUp = c.assign(1, form(0, 1, 1));
            int more = c.choice(skip, yUp);
            due("b has an end more from " + state, c.refines(skip, more), 0);
            due("b has an end less from " + state, c.refines(more, skip), 1);
        }
    }

    private static void promise17EndsDoNotCountWhereAIsNotSure() {
        for (int state : EDGE_STATES) {
            GuardedCommands c = withGuards(ALL, bit(state));
            int skip = c.skip();
            int fail = c.fail();
            int yUp = c.assign(1, form(0, 1, 1));
            int mayFail = c.choice(skip, fail);
            int more = c.choice(skip, yUp);
            due("a may fail at " + state, c.refines(mayFail, more), 1);
            due("b may fail at " + state, c.refines(more, mayFail), 0);
        }
    }

    // ---- Promise 18 ----

    private static void promise18ProgramsThatAreNotGood() {
        for (int count = 0; count <= 30; count += 10) {
            GuardedCommands c = withSkips(count);
            for (int bad : notPrograms(count)) {
                due("program " + bad + " of " + count, c.settled(bad), -1);
            }
        }
    }

    private static void promise18FirstAndLastProgram() {
        GuardedCommands c = withSkips(30);
        due("the first", c.settled(0), 1);
        due("the last", c.settled(29), 1);
    }

    private static void promise18NowhereSureIsSettled() {
        GuardedCommands c = withGuards(ALL, ALL);
        int skip = c.skip();
        int fail = c.fail();
        due("fail", c.settled(fail), 1);
        due("forever", c.settled(c.loop(skip, skip)), 1);
        due("skip or fail", c.settled(c.choice(skip, fail)), 1);
    }

    private static void promise18TwoEndsFromOneState() {
        for (int state : EDGE_STATES) {
            GuardedCommands c = withGuards(ALL, bit(state));
            int skip = c.skip();
            int yUp = c.assign(1, form(0, 1, 1));
            due("two ends from " + state, c.settled(c.choice(skip, yUp)), 0);
            due("two ways to one end from " + state, c.settled(c.choice(skip, skip)), 1);
        }
    }

    private static void promise18TwoEndsWhereItIsNotSure() {
        for (int state : EDGE_STATES) {
            GuardedCommands c = withGuards(ALL, bit(state));
            int skip = c.skip();
            int yUp = c.assign(1, form(0, 1, 1));
            int fail = c.fail();
            int two = c.choice(skip, yUp);
            due("two ends or a fail from " + state, c.settled(c.choice(two, fail)), 1);
        }
    }

    // ---- Promise 19 ----

    private static void promise19ProgramsThatAreNotGood() {
        for (int count = 0; count <= 30; count += 10) {
            GuardedCommands c = withSkips(count);
            for (int bad : notPrograms(count)) {
                due("program " + bad + " of " + count, c.widest(bad), -1);
            }
        }
    }

    private static void promise19FirstAndLastProgram() {
        GuardedCommands c = withSkips(30);
        due("the first", c.widest(0), 1);
        due("the last", c.widest(29), 1);
    }

    private static void promise19NoEndsAtAll() {
        GuardedCommands c = withGuards(ALL, 0L);
        int skip = c.skip();
        due("fail", c.widest(c.fail()), 0);
        due("forever", c.widest(c.loop(skip, skip)), 0);
    }

    private static void promise19OneStateHasMore() {
        for (int state : EDGE_STATES) {
            GuardedCommands c = withGuards(ALL, bit(state));
            int skip = c.skip();
            int yUp = c.assign(1, form(0, 1, 1));
            due("two ends from " + state, c.widest(c.choice(skip, yUp)), 2);
            c.guard(0, bit(state));
            due("one end, and only from " + state, c.widest(c.choice(skip, skip)), 1);
        }
    }

    private static void promise19StatesWhereItIsNotSureCount() {
        GuardedCommands c = withGuards(ALL, ALL);
        int skip = c.skip();
        int yUp = c.assign(1, form(0, 1, 1));
        int fail = c.fail();
        int two = c.choice(skip, yUp);
        due("two ends or a fail", c.widest(c.choice(two, fail)), 2);
    }

    // From any state, this program may end in any state.
    private static int makeAnywhere(GuardedCommands c) {
        c.guard(0, ALL);
        c.guard(1, ALL);
        int skip = c.skip();
        int all = skip;
        for (int step = 1; step < 8; step *= 2) {
            int xMayGo = c.choice(skip, c.assign(0, form(1, 0, step)));
            all = c.sequence(all, xMayGo);
            int yMayGo = c.choice(skip, c.assign(1, form(0, 1, step)));
            all = c.sequence(all, yMayGo);
        }
        return all;
    }

    private static void promise19All64StatesAreEnds() {
        GuardedCommands c = new GuardedCommands();
        int anywhere = makeAnywhere(c);
        due("widest", c.widest(anywhere), 64);
        for (int state : EDGE_STATES) {
            due("ends from " + state, c.ends(anywhere, state), ALL);
            due("all but " + state + " is too little", c.demand(anywhere, ~bit(state)), 0L);
        }
        due("all is enough", c.demand(anywhere, ALL), ALL);
    }

    private static void promise19OneEndLessThanAll() {
        for (int state : EDGE_STATES) {
            GuardedCommands c = new GuardedCommands();
            int anywhere = makeAnywhere(c);
            c.guard(0, ~bit(state));
            c.guard(1, 0L);
            int notThere = c.choice(0, 0);
            int butThere = c.sequence(anywhere, notThere);
            due("widest without " + state, c.widest(butThere), 63);
            due("ends without " + state, c.ends(butThere, state), ~bit(state));
            due("sure without " + state, c.sure(butThere), 0L);
        }
    }
}
