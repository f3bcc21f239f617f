/** For each promise: ordinary inputs, the edges that the document names, and wrong inputs. */
public final class PromisesTest {
    private static final long ALL = -1L;
    private static final long X_IS_0 = 255L;
    private static final long Y_IS_0 = 0x0101010101010101L;
    private static final int[] NO_PROGRAM = {-1, 30, 31, 64, Integer.MIN_VALUE, Integer.MAX_VALUE};

    private static int wrong = 0;

    public static void main(String[] args) {
        newObject();
        guardSetsAndCounts();
        compareSetsAndCounts();
        compareRefuses();
        opposeTurnsRound();
        skipEndsWhereItStarts();
        failNeverEnds();
        assignReckonsModulo8();
        assignRefuses();
        sequenceRunsBoth();
        sequenceKeepsEndsOfUnsureParts();
        choiceTakesOpenBranches();
        choiceKeepsItsGuards();
        loopGoesRound();
        loopThatMayGoOnForever();
        loopWithUnsureBody();
        loopKeepsItsGuards();
        makersRefuse();
        fullList();
        fullListRefusesInOrder();
        refusedCallsChangeNothing();
        questionsChangeNothing();
        wrongQuestions();
        demandsAndImage();
        refinement();
        settledAndWidest();
        objectsAreApart();
        longestLoop();
        longSequences();
        System.out.println(wrong == 0 ? "all answers are as due" : wrong + " answers are not as due");
        if (wrong != 0) {
            System.exit(1);
        }
    }

    private static void due(String what, long got, long want) {
        if (got != want) {
            wrong++;
            System.out.println(what + " answered " + got + ", due is " + want);
        }
    }

    private static long bit(int state) {
        return 1L << state;
    }

    private static int form(int p, int q, int r) {
        return 64 * p + 8 * q + r;
    }

    // A choice between skip and fail ends just where the guard before the skip holds, so it tells that guard.
    private static long guardsSeen(GuardedCommands c, boolean first) {
        int skip = c.skip();
        int fail = c.fail();
        int choice = first ? c.choice(skip, fail) : c.choice(fail, skip);
        return c.image(choice, ALL);
    }

    private static void newObject() {
        GuardedCommands c = new GuardedCommands();
        due("1: programs of a new object", c.programs(), 0);
        due("1: g of a new object", guardsSeen(c, true), 0L);
        due("1: h of a new object", guardsSeen(c, false), 0L);
        GuardedCommands d = new GuardedCommands();
        due("1: all that is not in an empty g", d.oppose(0), 64);
        due("1: all that is not in an empty h", d.oppose(1), 64);
        GuardedCommands e = new GuardedCommands();
        due("1: no program 0", e.settled(0), -1);
    }

    private static void guardSetsAndCounts() {
        GuardedCommands c = new GuardedCommands();
        due("2: guard g of six", c.guard(0, 0x8000000000001107L), 6);
        due("2: guard h of one", c.guard(1, bit(63)), 1);
        due("2: g stays beside h", guardsSeen(c, true), 0x8000000000001107L);
        due("2: h stays beside g", guardsSeen(c, false), bit(63));
        due("2: guard with no state", c.guard(0, 0L), 0);
        due("2: guard with all states", c.guard(0, ALL), 64);
        due("2: the later g holds", guardsSeen(c, true), ALL);
        due("2: which -1 is h", c.guard(-1, 6L), 2);
        due("2: h by which -1", guardsSeen(c, false), 6L);
        due("2: which 2 is h", c.guard(2, 12L), 2);
        due("2: h by which 2", guardsSeen(c, false), 12L);
        due("2: which least is h", c.guard(Integer.MIN_VALUE, 24L), 2);
        due("2: h by which least", guardsSeen(c, false), 24L);
        due("2: g by then", guardsSeen(c, true), ALL);
    }

    private static void compareSetsAndCounts() {
        GuardedCommands c = new GuardedCommands();
        due("3: x below 1", c.compare(0, form(1, 0, 0), 1), 8);
        due("3: g is x below 1", guardsSeen(c, true), X_IS_0);
        due("3: y below 1", c.compare(7, form(0, 1, 0), 1), 8);
        due("3: h is y below 1", guardsSeen(c, false), Y_IS_0);
        due("3: g is still x below 1", guardsSeen(c, true), X_IS_0);
        due("3: nothing is below 0", c.compare(0, form(7, 7, 7), 0), 0);
        due("3: everything is below 8", c.compare(0, form(7, 7, 7), 8), 64);
        due("3: 7 is not below 7", c.compare(0, form(0, 0, 7), 7), 0);
        due("3: 6 is below 7", c.compare(0, form(0, 0, 6), 7), 64);
        due("3: 2 * x + 4 * y + 1 below 2", c.compare(0, form(2, 4, 1), 2), 16);
        long want = 0L;
        for (int state = 0; state < 64; state++) {
            if ((2 * (state / 8) + 4 * (state % 8) + 1) % 8 < 2) {
                want |= bit(state);
            }
        }
        due("3: the set of 2 * x + 4 * y + 1 below 2", guardsSeen(c, true), want);
        everyForm();
    }

    private static void everyForm() {
        for (int p = 0; p < 8; p++) {
            for (int q = 0; q < 8; q++) {
                for (int r = 0; r < 8; r++) {
                    formBelowEveryBound(p, q, r);
                }
            }
        }
    }

    private static void formBelowEveryBound(int p, int q, int r) {
        GuardedCommands c = new GuardedCommands();
        c.skip();
        for (int bound = 0; bound <= 8; bound++) {
            long want = 0L;
            for (int x = 0; x < 8; x++) {
                for (int y = 0; y < 8; y++) {
                    if ((p * x + q * y + r) % 8 < bound) {
                        want |= bit(8 * x + y);
                    }
                }
            }
            due("3: count for " + p + q + r + " below " + bound,
                    c.compare(0, form(p, q, r), bound), Long.bitCount(want));
            due("3: set for " + p + q + r + " below " + bound, c.sure(c.choice(0, 0)), want);
        }
    }

    private static void compareRefuses() {
        GuardedCommands c = new GuardedCommands();
        c.guard(0, 5L);
        c.guard(1, 9L);
        due("3: form -1", c.compare(0, -1, 3), -1);
        due("3: form 512", c.compare(1, 512, 3), -1);
        due("3: least form", c.compare(0, Integer.MIN_VALUE, 3), -1);
        due("3: greatest form", c.compare(0, Integer.MAX_VALUE, 3), -1);
        due("3: bound -1", c.compare(0, 0, -1), -2);
        due("3: bound 9", c.compare(1, 511, 9), -2);
        due("3: least bound", c.compare(1, 0, Integer.MIN_VALUE), -2);
        due("3: greatest bound", c.compare(1, 0, Integer.MAX_VALUE), -2);
        due("3: form comes before bound", c.compare(0, 512, 9), -1);
        due("3: form comes before bound, below", c.compare(0, -1, -1), -1);
        due("3: g after refusals", guardsSeen(c, true), 5L);
        due("3: h after refusals", guardsSeen(c, false), 9L);
        due("3: form 511 and bound 8 are taken", c.compare(0, 511, 8), 64);
        due("3: form 0 and bound 0 are taken", c.compare(0, 0, 0), 0);
    }

    private static void opposeTurnsRound() {
        GuardedCommands c = new GuardedCommands();
        c.guard(0, 5L);
        c.guard(1, bit(63));
        due("4: oppose g", c.oppose(0), 62);
        due("4: g turned", guardsSeen(c, true), ~5L);
        due("4: h beside it", guardsSeen(c, false), bit(63));
        due("4: oppose h", c.oppose(-5), 63);
        due("4: h turned", guardsSeen(c, false), ~bit(63));
        due("4: g beside it", guardsSeen(c, true), ~5L);
        due("4: oppose g again", c.oppose(0), 2);
        due("4: g is back", guardsSeen(c, true), 5L);
        due("4: oppose h again", c.oppose(Integer.MAX_VALUE), 1);
        due("4: h is back", guardsSeen(c, false), bit(63));
    }

    private static void skipEndsWhereItStarts() {
        GuardedCommands c = new GuardedCommands();
        due("5: number of the first skip", c.skip(), 0);
        due("5: number of the second skip", c.skip(), 1);
        for (int state = 0; state < 64; state++) {
            due("5: ends of skip from " + state, c.ends(1, state), bit(state));
        }
        due("5: skip is sure", c.sure(0), ALL);
        due("5: programs", c.programs(), 2);
    }

    private static void failNeverEnds() {
        GuardedCommands c = new GuardedCommands();
        due("6: number of the first fail", c.fail(), 0);
        due("6: number of the second fail", c.fail(), 1);
        for (int state = 0; state < 64; state++) {
            due("6: ends of fail from " + state, c.ends(1, state), 0L);
        }
        due("6: fail is not sure", c.sure(0), 0L);
        due("6: programs", c.programs(), 2);
    }

    private static void assignReckonsModulo8() {
        for (int form = 0; form < 512; form++) {
            GuardedCommands c = new GuardedCommands();
            due("7: number of the first", c.assign(0, form), 0);
            due("7: number of the second", c.assign(form % 2 == 0 ? 1 : -form, form), 1);
            due("7: an assignment to x is sure", c.sure(0), ALL);
            due("7: an assignment to y is sure", c.sure(1), ALL);
            for (int state = 0; state < 64; state++) {
                int x = state / 8;
                int y = state % 8;
                int value = (form / 64 * x + form / 8 % 8 * y + form % 8) % 8;
                due("7: x by " + form + " from " + state, c.ends(0, state), bit(8 * value + y));
                due("7: y by " + form + " from " + state, c.ends(1, state), bit(8 * x + value));
            }
        }
    }

    private static void assignRefuses() {
        GuardedCommands c = new GuardedCommands();
        due("7: form -1", c.assign(0, -1), -1);
        due("7: form 512", c.assign(1, 512), -1);
        due("7: least form", c.assign(0, Integer.MIN_VALUE), -1);
        due("7: greatest form", c.assign(1, Integer.MAX_VALUE), -1);
        due("7: refusals make nothing", c.programs(), 0);
    }

    private static void sequenceRunsBoth() {
        GuardedCommands c = new GuardedCommands();
        int toSum = c.assign(0, form(1, 1, 0));
        int twice = c.assign(1, form(0, 2, 1));
        due("8: number", c.sequence(toSum, twice), 2);
        due("8: number of the other way", c.sequence(twice, toSum), 3);
        due("8: (3, 6) by sum and twice", c.ends(2, 30), bit(8 * 1 + 5));
        due("8: (3, 6) by twice and sum", c.ends(3, 30), bit(8 * 0 + 5));
        due("8: sure", c.sure(2), ALL);
        due("8: one with itself", c.sequence(toSum, toSum), 4);
        due("8: (3, 6) by sum and sum", c.ends(4, 30), bit(8 * 7 + 6));
    }

    private static void sequenceKeepsEndsOfUnsureParts() {
        GuardedCommands c = new GuardedCommands();
        int skip = c.skip();
        int fail = c.fail();
        int next = c.assign(1, form(0, 1, 1));
        c.guard(0, ALL);
        c.guard(1, ALL);
        int mayFail = c.choice(skip, fail);
        int both = c.choice(skip, next);
        c.guard(0, ALL);
        c.guard(1, 0L);
        int forever = c.loop(skip, skip);
        c.guard(0, Y_IS_0);
        int onlyAtY0 = c.choice(skip, skip);

        int after = c.sequence(mayFail, next);
        due("8: ends behind a part that may fail", c.ends(after, 7), bit(0));
        due("8: not sure behind a part that may fail", c.sure(after), 0L);
        int before = c.sequence(next, mayFail);
        due("8: ends before a part that may fail", c.ends(before, 7), bit(0));
        due("8: not sure before a part that may fail", c.sure(before), 0L);
        int failThenForever = c.sequence(fail, forever);
        due("8: no ends of fail and forever", c.image(failThenForever, ALL), 0L);
        due("8: fail and forever is not sure", c.sure(failThenForever), 0L);
        due("8: nothing is reached behind fail", c.image(c.sequence(fail, skip), ALL), 0L);
        due("8: not sure behind fail", c.sure(c.sequence(fail, skip)), 0L);
        int allMustBeSure = c.sequence(both, onlyAtY0);
        due("8: one of two middles fails", c.sure(allMustBeSure), 0L);
        due("8: the other middle still ends", c.ends(allMustBeSure, 7), bit(0));
        due("8: and from the other side", c.ends(allMustBeSure, 8), bit(8));
        due("8: no middle is good", c.ends(allMustBeSure, 9), 0L);
        int allMiddles = c.sequence(both, both);
        due("8: the ends of all middles", c.ends(allMiddles, 0), 7L);
    }

    private static void choiceTakesOpenBranches() {
        GuardedCommands c = new GuardedCommands();
        int xUp = c.assign(0, form(1, 0, 1));
        int yUp = c.assign(1, form(0, 1, 1));
        c.guard(0, 0b0011L);
        c.guard(1, 0b0110L);
        due("9: number", c.choice(xUp, yUp), 2);
        due("9: in g alone", c.ends(2, 0), bit(8));
        due("9: in both", c.ends(2, 1), bit(9) | bit(2));
        due("9: in h alone", c.ends(2, 2), bit(3));
        due("9: in neither", c.ends(2, 3), 0L);
        due("9: sure in g or h", c.sure(2), 0b0111L);
        int fail = c.fail();
        int failInG = c.choice(fail, yUp);
        due("9: sure only where g is shut", c.sure(failInG), 0b0100L);
        due("9: the good branch still ends", c.ends(failInG, 1), bit(2));
        int failInH = c.choice(xUp, fail);
        due("9: sure only where h is shut", c.sure(failInH), 0b0001L);
        due("9: the good branch of g still ends", c.ends(failInH, 1), bit(9));
        due("9: a shut bad branch does not end", c.ends(failInH, 2), 0L);
        c.guard(0, bit(63));
        c.guard(1, bit(63));
        due("9: a choice of one with itself", c.ends(c.choice(xUp, xUp), 63), bit(7));
        c.guard(0, 0L);
        c.guard(1, 0L);
        int shut = c.choice(xUp, yUp);
        due("9: a shut choice is nowhere sure", c.sure(shut), 0L);
        due("9: a shut choice has no ends", c.image(shut, ALL), 0L);
    }

    private static void choiceKeepsItsGuards() {
        GuardedCommands c = new GuardedCommands();
        int skip = c.skip();
        c.guard(0, 3L);
        c.guard(1, 4L);
        int choice = c.choice(skip, skip);
        c.guard(0, ALL);
        c.oppose(1);
        due("9: later guards do not reach it", c.sure(choice), 7L);
        due("9: nor its ends", c.image(choice, ALL), 7L);
    }

    private static void loopGoesRound() {
        GuardedCommands c = new GuardedCommands();
        int xDown = c.assign(0, form(1, 0, 7));
        int yDown = c.assign(1, form(0, 1, 7));
        c.compare(0, form(1, 0, 0), 1);
        c.oppose(0);
        c.compare(1, form(0, 1, 0), 1);
        c.oppose(1);
        due("10: number", c.loop(xDown, yDown), 2);
        due("10: down to nothing is sure", c.sure(2), ALL);
        for (int state = 0; state < 64; state++) {
            due("10: down to nothing from " + state, c.ends(2, state), 1L);
        }
        c.guard(0, 0L);
        c.guard(1, 0L);
        int notAtAll = c.loop(xDown, yDown);
        due("10: a shut loop is sure", c.sure(notAtAll), ALL);
        due("10: a shut loop ends where it is", c.ends(notAtAll, 44), bit(44));
        c.guard(1, ALL ^ Y_IS_0);
        int onlyH = c.loop(xDown, yDown);
        due("10: h alone takes b", c.ends(onlyH, 44), bit(40));
        due("10: h alone is sure", c.sure(onlyH), ALL);
        c.guard(0, ALL ^ X_IS_0);
        c.guard(1, 0L);
        int onlyG = c.loop(xDown, yDown);
        due("10: g alone takes a", c.ends(onlyG, 44), bit(4));
        c.guard(0, bit(10));
        c.guard(1, bit(10) | bit(2));
        int once = c.loop(xDown, yDown);
        due("10: two ways out", c.ends(once, 10), bit(9) | bit(1));
        due("10: one way out", c.ends(once, 2), bit(1));
        due("10: both are sure", c.sure(once), ALL);
    }

    private static void loopThatMayGoOnForever() {
        GuardedCommands c = new GuardedCommands();
        int skip = c.skip();
        int yDown = c.assign(1, form(0, 1, 7));
        c.guard(0, X_IS_0 ^ 1L);
        c.guard(1, bit(3));
        int loop = c.loop(yDown, skip);
        due("10: ends though it may stay forever", c.ends(loop, 5), 1L);
        due("10: sure only before the place to stay", c.sure(loop), ALL ^ 0b11111000L);
        c.guard(0, X_IS_0);
        c.guard(1, 0L);
        int round = c.loop(yDown, skip);
        due("10: round and round has no end", c.ends(round, 5), 0L);
        due("10: round and round is not sure", c.sure(round), ~X_IS_0);
        c.guard(0, bit(8));
        c.guard(1, 0L);
        int innerForever = c.loop(skip, skip);
        c.guard(0, bit(8) | bit(9));
        int outer = c.loop(yDown, yDown);
        due("10: a loop in order", c.ends(outer, 9), bit(15));
        due("10: a body that goes on forever", c.sure(c.loop(innerForever, skip)), ~(bit(8) | bit(9)));
    }

    private static void loopWithUnsureBody() {
        GuardedCommands c = new GuardedCommands();
        int fail = c.fail();
        int yDown = c.assign(1, form(0, 1, 7));
        c.guard(0, X_IS_0 ^ 1L);
        c.guard(1, bit(3));
        int loop = c.loop(yDown, fail);
        due("10: ends beside a fail", c.ends(loop, 7), 1L);
        due("10: not sure before a fail", c.sure(loop), ALL ^ 0b11111000L);
        int failFirst = c.loop(fail, yDown);
        due("10: a body that fails has no way on", c.ends(failFirst, 3), 0L);
        due("10: it is sure where it does not begin", c.sure(failFirst), ALL ^ 0b11111110L);
        c.guard(0, 0L);
        c.guard(1, 0L);
        int shut = c.choice(yDown, yDown);
        c.guard(0, bit(20));
        int failing = c.loop(shut, yDown);
        due("10: a failing body in g", c.sure(failing), ~bit(20));
        due("10: it has no end there", c.ends(failing, 20), 0L);
    }

    private static void loopKeepsItsGuards() {
        GuardedCommands c = new GuardedCommands();
        int yDown = c.assign(1, form(0, 1, 7));
        c.guard(0, bit(3));
        c.guard(1, bit(2));
        int loop = c.loop(yDown, yDown);
        c.guard(0, ALL);
        c.guard(1, 0L);
        due("10: later guards do not reach its ends", c.ends(loop, 3), bit(1));
        due("10: nor where it is sure", c.sure(loop), ALL);
    }

    private static void makersRefuse() {
        for (int bad : NO_PROGRAM) {
            GuardedCommands c = new GuardedCommands();
            c.skip();
            due("8: first part " + bad, c.sequence(bad, 0), -1);
            due("8: second part " + bad, c.sequence(0, bad), -1);
            due("9: first part " + bad, c.choice(bad, 0), -1);
            due("9: second part " + bad, c.choice(0, bad), -1);
            due("10: first part " + bad, c.loop(bad, 0), -1);
            due("10: second part " + bad, c.loop(0, bad), -1);
            due("11: refusals make nothing", c.programs(), 1);
        }
        GuardedCommands d = new GuardedCommands();
        d.skip();
        due("8: a program is not part of itself", d.sequence(0, 1), -1);
        due("9: a program is not part of itself", d.choice(1, 0), -1);
        due("10: a program is not part of itself", d.loop(1, 1), -1);
    }

    private static GuardedCommands full() {
        GuardedCommands c = new GuardedCommands();
        for (int number = 0; number < 30; number++) {
            due("11: programs before " + number, c.programs(), number);
            due("11: number " + number, makeOne(c, number), number);
        }
        return c;
    }

    private static int makeOne(GuardedCommands c, int number) {
        if (number == 0) {
            return c.skip();
        }
        switch (number % 6) {
            case 0: return c.skip();
            case 1: return c.fail();
            case 2: return c.assign(number, number);
            case 3: return c.sequence(0, number - 1);
            case 4: return c.choice(number - 1, 0);
            default: return c.loop(0, number - 1);
        }
    }

    private static void fullList() {
        GuardedCommands c = full();
        due("5: a full list", c.skip(), -1);
        due("6: a full list", c.fail(), -1);
        due("7: a full list", c.assign(0, 0), -2);
        due("8: a full list", c.sequence(0, 29), -2);
        due("9: a full list", c.choice(29, 0), -2);
        due("10: a full list", c.loop(0, 0), -2);
        due("11: a full list", c.programs(), 30);
        due("12: the last program is good", c.ends(29, 11), bit(11));
        due("12: the one behind it is not", c.ends(30, 11), 0L);
        due("18: the last program is good", c.settled(29), 1);
        due("18: the one behind it is not", c.settled(30), -1);
    }

    private static void fullListRefusesInOrder() {
        GuardedCommands c = full();
        due("7: form comes before the full list", c.assign(0, 512), -1);
        due("7: form comes before the full list, below", c.assign(1, -1), -1);
        for (int bad : NO_PROGRAM) {
            due("8: a comes before the full list", c.sequence(bad, 0), -1);
            due("8: b comes before the full list", c.sequence(0, bad), -1);
            due("9: a comes before the full list", c.choice(bad, 0), -1);
            due("9: b comes before the full list", c.choice(0, bad), -1);
            due("10: a comes before the full list", c.loop(bad, 0), -1);
            due("10: b comes before the full list", c.loop(0, bad), -1);
        }
        due("11: still a full list", c.programs(), 30);
        due("2: guards are set beside a full list", c.guard(0, 7L), 3);
        due("4: and turned", c.oppose(0), 61);
    }

    private static void refusedCallsChangeNothing() {
        GuardedCommands c = full();
        long before = trace(c);
        c.skip();
        c.fail();
        c.assign(0, 99);
        c.assign(0, 512);
        c.sequence(2, 2);
        c.choice(2, 2);
        c.loop(2, 2);
        c.loop(30, 2);
        due("11: nothing changed by refusals", trace(c), before);
    }

    private static void questionsChangeNothing() {
        GuardedCommands c = full();
        long before = trace(c);
        due("12: the same answers again", trace(c), before);
        GuardedCommands d = new GuardedCommands();
        d.skip();
        d.guard(0, 6L);
        d.guard(1, 9L);
        d.demand(0, 77L);
        d.weakDemand(0, 78L);
        d.image(0, 79L);
        d.refines(0, 0);
        d.settled(0);
        d.widest(0);
        d.ends(0, 5);
        d.sure(0);
        due("11: questions make nothing", d.programs(), 1);
        due("2: g behind questions", guardsSeen(d, true), 6L);
        due("2: h behind questions", guardsSeen(d, false), 9L);
    }

    private static long trace(GuardedCommands c) {
        long all = c.programs();
        for (int program = 0; program < 30; program++) {
            all = 31 * all + c.sure(program);
            all = 31 * all + c.widest(program);
            all = 31 * all + c.settled(program);
            all = 31 * all + c.image(program, 0x123456789L);
            all = 31 * all + c.weakDemand(program, 0x123456789L);
            all = 31 * all + c.ends(program, program);
        }
        return all;
    }

    private static void wrongQuestions() {
        GuardedCommands c = new GuardedCommands();
        int skip = c.skip();
        due("12: state -1", c.ends(skip, -1), 0L);
        due("12: state 64", c.ends(skip, 64), 0L);
        due("12: least state", c.ends(skip, Integer.MIN_VALUE), 0L);
        due("12: greatest state", c.ends(skip, Integer.MAX_VALUE), 0L);
        due("12: state 63 is good", c.ends(skip, 63), bit(63));
        due("12: state 0 is good", c.ends(skip, 0), bit(0));
        // A second program makes a bad state of the first one look like a good one of the second.
        c.skip();
        due("12: state 64 of two", c.ends(0, 64), 0L);
        due("12: state -1 of two", c.ends(1, -1), 0L);
        for (int bad : NO_PROGRAM) {
            wrongProgram(c, bad);
        }
        wrongProgram(c, 2);
        wrongProgram(new GuardedCommands(), 0);
    }

    private static void wrongProgram(GuardedCommands c, int bad) {
        due("12: program " + bad, c.ends(bad, 0), 0L);
        due("12: program and state " + bad, c.ends(bad, bad), 0L);
        due("13: program " + bad, c.sure(bad), 0L);
        due("14: program " + bad, c.demand(bad, ALL), 0L);
        due("15: program " + bad, c.weakDemand(bad, ALL), 0L);
        due("15: program " + bad + " for nothing", c.weakDemand(bad, 0L), 0L);
        due("16: program " + bad, c.image(bad, ALL), 0L);
        due("17: a " + bad, c.refines(bad, 0), -1);
        due("17: b " + bad, c.refines(0, bad), -1);
        due("17: both " + bad, c.refines(bad, bad), -1);
        due("18: program " + bad, c.settled(bad), -1);
        due("19: program " + bad, c.widest(bad), -1);
    }

    private static void demandsAndImage() {
        GuardedCommands c = new GuardedCommands();
        int skip = c.skip();
        int fail = c.fail();
        int xUp = c.assign(0, form(1, 0, 1));
        due("14: skip", c.demand(skip, 0xABCDL), 0xABCDL);
        due("15: skip", c.weakDemand(skip, 0xABCDL), 0xABCDL);
        due("16: skip", c.image(skip, 0xABCDL), 0xABCDL);
        due("14: fail", c.demand(fail, ALL), 0L);
        due("15: fail", c.weakDemand(fail, 0L), ALL);
        due("16: fail", c.image(fail, ALL), 0L);
        due("14: x up to 1", c.demand(xUp, X_IS_0 << 8), X_IS_0);
        due("16: x up from 0", c.image(xUp, X_IS_0), X_IS_0 << 8);
        due("16: x up from 7", c.image(xUp, X_IS_0 << 56), X_IS_0);
        due("14: nothing is demanded of nothing", c.demand(xUp, 0L), 0L);
        due("16: the image of nothing", c.image(xUp, 0L), 0L);
        c.guard(0, 0b0111L);
        c.guard(1, 0b0110L);
        int choice = c.choice(skip, xUp);
        due("14: all ends must be in it", c.demand(choice, 0b0111L), 0b0001L);
        due("14: both ends are in it", c.demand(choice, bit(1) | bit(9)), 0b0010L);
        due("15: no ends are all in it", c.weakDemand(choice, bit(1) | bit(9)), ~0b0101L);
        due("16: both ends", c.image(choice, 0b0010L), bit(1) | bit(9));
        due("16: ends of several states", c.image(choice, 0b1011L), bit(0) | bit(1) | bit(9));
        int mayFail = c.choice(skip, fail);
        due("14: it must be sure", c.demand(mayFail, ALL), 0b0001L);
        due("15: it need not be sure", c.weakDemand(mayFail, 0b0010L), ~0b0101L);
        due("16: ends beside a fail", c.image(mayFail, ALL), 0b0111L);
        due("14: all states are demanded where it is sure", c.demand(choice, ALL), c.sure(choice));
    }

    private static void refinement() {
        GuardedCommands c = new GuardedCommands();
        int skip = c.skip();
        int fail = c.fail();
        int xUp = c.assign(0, form(1, 0, 1));
        c.guard(0, ALL);
        c.guard(1, ALL);
        int either = c.choice(skip, xUp);
        int mayFail = c.choice(skip, fail);
        c.guard(0, ~bit(63));
        c.guard(1, 0L);
        int nearlySkip = c.choice(skip, skip);
        c.guard(0, ALL);
        c.guard(1, bit(63));
        int skipOrMore = c.choice(skip, xUp);
        int skipOrFail = c.choice(skip, fail);
        due("17: fewer ends", c.refines(either, skip), 1);
        due("17: other fewer ends", c.refines(either, xUp), 1);
        due("17: more ends", c.refines(skip, either), 0);
        due("17: other ends", c.refines(skip, xUp), 0);
        due("17: itself", c.refines(either, either), 1);
        due("17: fail by anything", c.refines(fail, xUp), 1);
        due("17: anything by fail", c.refines(xUp, fail), 0);
        due("17: fail by fail", c.refines(fail, fail), 1);
        due("17: ends do not count where a is not sure", c.refines(mayFail, xUp), 1);
        due("17: and both ways", c.refines(mayFail, fail), 1);
        due("17: sure in one state more", c.refines(nearlySkip, skip), 1);
        due("17: sure in one state less", c.refines(skip, nearlySkip), 0);
        due("17: an end more from the last state", c.refines(skip, skipOrMore), 0);
        due("17: an end less from the last state", c.refines(skipOrMore, skip), 1);
        due("17: may fail in the last state", c.refines(skip, skipOrFail), 0);
        due("17: more ends where a is not sure", c.refines(skipOrFail, skipOrMore), 1);
        due("17: nearly skip and skip or fail", c.refines(nearlySkip, skipOrFail), 1);
        due("17: skip or fail and nearly skip", c.refines(skipOrFail, nearlySkip), 1);
    }

    private static void settledAndWidest() {
        GuardedCommands c = new GuardedCommands();
        int skip = c.skip();
        int fail = c.fail();
        int yUp = c.assign(1, form(0, 1, 1));
        due("18: skip", c.settled(skip), 1);
        due("18: fail", c.settled(fail), 1);
        due("18: assignment", c.settled(yUp), 1);
        due("19: skip", c.widest(skip), 1);
        due("19: fail", c.widest(fail), 0);
        due("19: assignment", c.widest(yUp), 1);
        c.guard(0, ALL);
        c.guard(1, bit(63));
        int two = c.choice(skip, yUp);
        due("18: two ends from the last state", c.settled(two), 0);
        due("19: two ends from the last state", c.widest(two), 2);
        c.guard(1, bit(0));
        int first = c.choice(skip, yUp);
        due("18: two ends from the first state", c.settled(first), 0);
        due("19: two ends from the first state", c.widest(first), 2);
        int same = c.choice(skip, skip);
        due("18: two ways to one end", c.settled(same), 1);
        due("19: two ways to one end", c.widest(same), 1);
        c.guard(0, ALL);
        c.guard(1, ALL);
        int any = c.choice(two, fail);
        due("18: two ends where it is not sure", c.settled(any), 1);
        due("19: two ends where it is not sure", c.widest(any), 2);
        widestOfAll();
    }

    private static void widestOfAll() {
        GuardedCommands c = new GuardedCommands();
        c.skip();
        c.guard(0, ALL);
        c.guard(1, ALL);
        int all = 0;
        for (int half = 1; half < 8; half *= 2) {
            all = c.sequence(all, c.choice(0, c.assign(0, form(1, 0, half))));
            all = c.sequence(all, c.choice(0, c.assign(1, form(0, 1, half))));
        }
        due("19: all states as ends", c.widest(all), 64);
        due("18: all states as ends", c.settled(all), 0);
        due("12: all states as ends", c.ends(all, 17), ALL);
        due("16: all states as ends", c.image(all, bit(40)), ALL);
        due("14: all states are asked", c.demand(all, ALL ^ 1L), 0L);
    }

    private static void objectsAreApart() {
        GuardedCommands c = new GuardedCommands();
        GuardedCommands d = new GuardedCommands();
        c.guard(0, ALL);
        c.guard(1, ALL);
        c.skip();
        due("1: another object has no programs", d.programs(), 0);
        due("1: nor guards", d.oppose(0), 64);
        d.fail();
        due("1: nor its programs", c.sure(0), ALL);
    }

    // One step of this loop goes to the next of all 64 states, so the longest way has 63 steps.
    private static void longestLoop() {
        for (int direction = 0; direction < 2; direction++) {
            GuardedCommands c = new GuardedCommands();
            int by = direction == 0 ? 1 : 7;
            int turn = direction == 0 ? 7 : 0;
            int x = c.assign(0, form(1, 0, by));
            int y = c.assign(1, form(0, 1, by));
            long atTurn = Y_IS_0 << turn;
            c.guard(0, atTurn);
            c.guard(1, ~atTurn);
            int carry = c.choice(x, c.skip());
            int next = c.sequence(carry, y);
            int last = direction == 0 ? 63 : 0;
            c.guard(0, ~bit(last));
            c.guard(1, 0L);
            int loop = c.loop(next, next);
            due("10: the longest way is sure", c.sure(loop), ALL);
            due("10: the longest way ends", c.ends(loop, 63 - last), bit(last));
            due("10: all ways end there", c.image(loop, ALL), bit(last));
            c.guard(0, ALL);
            int round = c.loop(next, next);
            due("10: the longest way round is not sure", c.sure(round), 0L);
            due("10: the longest way round has no end", c.image(round, ALL), 0L);
        }
    }

    private static void longSequences() {
        GuardedCommands c = new GuardedCommands();
        int last = c.assign(0, form(3, 0, 1));
        for (int number = 1; number < 30; number++) {
            last = c.sequence(last, last);
        }
        due("8: the longest sequence", last, 29);
        due("8: the longest sequence is sure", c.sure(last), ALL);
        due("8: the longest sequence comes round", c.ends(last, 21), bit(21));
    }
}
