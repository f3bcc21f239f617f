import java.util.ArrayList;
import java.util.Collections;
import java.util.List;

/**
 * No question changes anything, and a refused call changes nothing. For each such
 * call, two objects are built by the same calls, one of them with the call in
 * between, at the end or behind each of the others; then all later answers of the
 * two must be the same.
 */
public final class UnchangedTest {
    private static final int MOST_CALLS = 512;
    private static final long ALL = -1L;
    private static final long MIXED = 0x8123456789ABCDE1L;

    private static int wrong = 0;
    private static int compared = 0;

    private interface Call {
        long on(GuardedCommands c);
    }

    private record Named(String name, Call call) { }

    public static void main(String[] args) {
        refusedAtAllTimes();
        refusedByAFullList();
        questions();
        System.out.println(wrong == 0 ? "all " + compared + " later answers are as before"
                : wrong + " answers are not as due");
        if (wrong != 0) {
            System.exit(1);
        }
    }

    private static void fault(String what) {
        wrong++;
        System.out.println(what);
    }

    private static void refused(String name, Call call, long refusal, List<List<Named>> lives) {
        Call checked = c -> {
            long got = call.on(c);
            if (got != refusal) {
                fault(name + " answered " + got + ", due is " + refusal);
            }
            return got;
        };
        for (List<Named> life : lives) {
            atTheEnd(name, checked, life);
        }
    }

    private static void refusedAtAllTimes() {
        int[] noProgram = {-1, 30, 31, 1 << 26, Integer.MIN_VALUE, Integer.MAX_VALUE};
        for (int which = 0; which < 2; which++) {
            int to = which;
            for (int form : new int[] {-1, 512, Integer.MIN_VALUE, Integer.MAX_VALUE}) {
                always("compare(" + to + ", " + form + ", 3)", c -> c.compare(to, form, 3), -1);
                always("compare(" + to + ", " + form + ", 9)", c -> c.compare(to, form, 9), -1);
                always("assign(" + to + ", " + form + ")", c -> c.assign(to, form), -1);
            }
            for (int bound : new int[] {-1, 9, Integer.MIN_VALUE, Integer.MAX_VALUE}) {
                always("compare(" + to + ", 77, " + bound + ")", c -> c.compare(to, 77, bound), -2);
            }
        }
        for (int bad : noProgram) {
            always("sequence(" + bad + ", 0)", c -> c.sequence(bad, 0), -1);
            always("sequence(0, " + bad + ")", c -> c.sequence(0, bad), -1);
            always("choice(" + bad + ", 0)", c -> c.choice(bad, 0), -1);
            always("choice(0, " + bad + ")", c -> c.choice(0, bad), -1);
            always("loop(" + bad + ", 0)", c -> c.loop(bad, 0), -1);
            always("loop(0, " + bad + ")", c -> c.loop(0, bad), -1);
            always("refines(" + bad + ", 0)", c -> c.refines(bad, 0), -1);
            always("refines(0, " + bad + ")", c -> c.refines(0, bad), -1);
            always("settled(" + bad + ")", c -> c.settled(bad), -1);
            always("widest(" + bad + ")", c -> c.widest(bad), -1);
            always("ends(" + bad + ", 5)", c -> c.ends(bad, 5), 0L);
            always("sure(" + bad + ")", c -> c.sure(bad), 0L);
            always("demand(" + bad + ")", c -> c.demand(bad, MIXED), 0L);
            always("weakDemand(" + bad + ")", c -> c.weakDemand(bad, MIXED), 0L);
            always("image(" + bad + ")", c -> c.image(bad, MIXED), 0L);
        }
        for (int state : new int[] {-1, 64, Integer.MIN_VALUE, Integer.MAX_VALUE}) {
            always("ends(0, " + state + ")", c -> c.ends(0, state), 0L);
            always("ends(1, " + state + ")", c -> c.ends(1, state), 0L);
        }
    }

    private static void always(String name, Call call, long refusal) {
        refused(name, call, refusal, List.of(List.of(), shortLife()));
        refused(name, call, refusal, fullLives());
        for (List<Named> life : fullLives()) {
            behindEach(name, call, life);
        }
    }

    private static void refusedByAFullList() {
        List<List<Named>> full = fullLives();
        for (List<Named> life : full) {
            if (made(life) != 30) {
                fault("the test's own list is not full");
            }
        }
        long lastIsSure = build(full.get(0), null).sure(29);
        if (lastIsSure == 0L || lastIsSure == ALL) {
            fault("the test's own choice is not sure in some states only");
        }
        refused("skip()", c -> c.skip(), -1, full);
        refused("fail()", c -> c.fail(), -1, full);
        for (int part = 0; part < 30; part += 29) {
            int a = part;
            refused("assign(" + a + ", 77)", c -> c.assign(a, 77), -2, full);
            refused("sequence(" + a + ", 4)", c -> c.sequence(a, 4), -2, full);
            refused("sequence(4, " + a + ")", c -> c.sequence(4, a), -2, full);
            refused("choice(" + a + ", 4)", c -> c.choice(a, 4), -2, full);
            refused("choice(4, " + a + ")", c -> c.choice(4, a), -2, full);
            refused("loop(" + a + ", 4)", c -> c.loop(a, 4), -2, full);
            refused("loop(4, " + a + ")", c -> c.loop(4, a), -2, full);
        }
    }

    private static void questions() {
        question("programs()", c -> c.programs());
        for (int program : new int[] {0, 5, 29}) {
            question("sure(" + program + ")", c -> c.sure(program));
            question("settled(" + program + ")", c -> c.settled(program));
            question("widest(" + program + ")", c -> c.widest(program));
            question("refines(" + program + ", 5)", c -> c.refines(program, 5));
            question("refines(5, " + program + ")", c -> c.refines(5, program));
            question("ends(" + program + ", 0)", c -> c.ends(program, 0));
            question("ends(" + program + ", 63)", c -> c.ends(program, 63));
            for (long condition : new long[] {0L, ALL, MIXED}) {
                question("demand(" + program + ", " + condition + ")", c -> c.demand(program, condition));
                question("weakDemand(" + program + ", " + condition + ")", c -> c.weakDemand(program, condition));
                question("image(" + program + ", " + condition + ")", c -> c.image(program, condition));
            }
        }
    }

    private static void question(String name, Call call) {
        atTheEnd(name, call, List.of());
        atTheEnd(name, call, shortLife());
        for (List<Named> life : fullLives()) {
            atTheEnd(name, call, life);
            behindEach(name, call, life);
        }
    }

    private static void add(List<Named> life, String name, Call call) {
        life.add(new Named(name, call));
    }

    // One program of each kind, with guards that are neither empty nor full, and room for more.
    private static List<Named> shortLife() {
        List<Named> life = new ArrayList<>();
        add(life, "skip", c -> c.skip());
        add(life, "assign", c -> c.assign(1, 15));
        add(life, "fail", c -> c.fail());
        add(life, "compare", c -> c.compare(0, 84, 5));
        add(life, "guard", c -> c.guard(1, MIXED));
        add(life, "choice", c -> c.choice(0, 1));
        add(life, "loop", c -> c.loop(1, 3));
        add(life, "sequence", c -> c.sequence(3, 4));
        add(life, "oppose", c -> c.oppose(1));
        return life;
    }

    // Two full lists, since no one program can show every change of it: the last of the first list is a
    // choice that is sure in some states only, the last of the second an assignment.
    private static List<List<Named>> fullLives() {
        return List.of(fullLife(0), fullLife(3));
    }

    private static List<Named> fullLife(int shift) {
        List<Named> life = shortLife();
        for (int number = 6; number < 30; number++) {
            int last = number - 1;
            int form = number * 53 % 512;
            add(life, "guard", c -> c.guard(last % 2, MIXED * (2 * last + 1)));
            switch ((number + shift) % 4) {
                case 0: add(life, "assign", c -> c.assign(last % 3, form)); break;
                case 1: add(life, "choice", c -> c.choice(last, last - 3)); break;
                case 2: add(life, "sequence", c -> c.sequence(last, last - 1)); break;
                default: add(life, "loop", c -> c.loop(last - 2, last - 1));
            }
        }
        return life;
    }

    private static void atTheEnd(String name, Call between, List<Named> life) {
        int count = made(life);
        for (List<Named> later : laters(count)) {
            GuardedCommands disturbed = build(life, null);
            between.on(disturbed);
            between.on(disturbed);
            same(name, disturbed, build(life, null), later, life.size() + 2);
        }
    }

    private static void behindEach(String name, Call between, List<Named> life) {
        int count = made(life);
        for (List<Named> later : laters(count)) {
            same(name + " behind each", build(life, between), build(life, null), later, 2 * life.size());
        }
    }

    private static GuardedCommands build(List<Named> life, Call between) {
        GuardedCommands c = new GuardedCommands();
        for (Named named : life) {
            named.call.on(c);
            if (between != null) {
                between.on(c);
            }
        }
        return c;
    }

    private static int made(List<Named> life) {
        return build(life, null).programs();
    }

    private static void same(String name, GuardedCommands disturbed, GuardedCommands quiet,
            List<Named> later, int callsBefore) {
        if (callsBefore + later.size() > MOST_CALLS) {
            fault("the test itself makes too many calls for " + name);
        }
        for (Named named : later) {
            long got = named.call.on(disturbed);
            long want = named.call.on(quiet);
            compared++;
            if (got != want) {
                fault("after " + name + ", " + named.name + " answered " + got + ", due is " + want);
            }
        }
    }

    // All answers of a full list are more than one object may be asked for, so they are asked of several.
    private static List<List<Named>> laters(int count) {
        List<List<Named>> all = new ArrayList<>();
        all.add(guardsLater(count));
        for (int first = 0; first < count; first += 5) {
            List<Named> later = new ArrayList<>();
            for (int program = first; program < first + 5 && program < count; program++) {
                askAll(later, program);
            }
            all.add(later);
            // A question that changes something would hide it by being asked of both: in one order it comes last.
            List<Named> backwards = new ArrayList<>(later);
            Collections.reverse(backwards);
            all.add(backwards);
        }
        return all;
    }

    // What is made later shows g and h themselves, where there is room, and their sizes in any case.
    private static List<Named> guardsLater(int count) {
        List<Named> later = new ArrayList<>();
        add(later, "skip()", c -> c.skip());
        add(later, "fail()", c -> c.fail());
        add(later, "choice of g", c -> c.choice(count, count + 1));
        add(later, "choice of h", c -> c.choice(count + 1, count));
        add(later, "loop", c -> c.loop(count + 1, count));
        add(later, "sequence", c -> c.sequence(count + 2, count + 4));
        add(later, "g", c -> c.sure(count + 2));
        add(later, "h", c -> c.sure(count + 3));
        for (int program = 0; program < 6; program++) {
            int number = count + program;
            add(later, "image of " + number, c -> c.image(number, ALL));
            add(later, "sure of " + number, c -> c.sure(number));
        }
        add(later, "oppose(0)", c -> c.oppose(0));
        add(later, "oppose(1)", c -> c.oppose(1));
        add(later, "programs()", c -> c.programs());
        return later;
    }

    private static void askAll(List<Named> later, int program) {
        add(later, "sure(" + program + ")", c -> c.sure(program));
        add(later, "settled(" + program + ")", c -> c.settled(program));
        add(later, "widest(" + program + ")", c -> c.widest(program));
        add(later, "demand(" + program + ")", c -> c.demand(program, MIXED));
        add(later, "weakDemand(" + program + ")", c -> c.weakDemand(program, MIXED));
        add(later, "image(" + program + ")", c -> c.image(program, MIXED));
        add(later, "refines(" + program + ", 0)", c -> c.refines(program, 0));
        add(later, "refines(0, " + program + ")", c -> c.refines(0, program));
        for (int at = 0; at < 64; at++) {
            int state = at;
            add(later, "ends(" + program + ", " + state + ")", c -> c.ends(program, state));
        }
    }
}
