import java.util.ArrayList;
import java.util.HashMap;
import java.util.List;
import java.util.Map;

/**
 * Follows the runs of made-up programs one step at a time, as the document tells
 * them, and compares all answers of the class with what the runs did.
 *
 * A place in a run is a state and the list of programs that are still to be run.
 * A loop that goes on stands in that list behind its body, so there are only
 * finitely many places, and a run goes on forever just if it can come back to one.
 */
public final class RunsTest {
    private static final int SKIP = 0;
    private static final int FAIL = 1;
    private static final int ASSIGN = 2;
    private static final int SEQUENCE = 3;
    private static final int CHOICE = 4;
    private static final int LOOP = 5;

    private static final int ROUNDS = 400;
    private static final int MOST_CALLS = 512;
    private static final int MOST_WORK = 400;

    private static int wrong = 0;
    private static int answers = 0;
    private static long seed = 1L;

    private static final class Program {
        int kind;
        int which;
        int form;
        Program a;
        Program b;
        long g;
        long h;
        int work;
        long[] ends = new long[64];
        long sure;
    }

    /** Programs still to be run, the next one first; null is the empty list. */
    private record Rest(Program next, Rest behind) { }

    private record Place(Rest rest, int state) { }

    private static final class Found {
        long ends = 0L;
        boolean bad = false;
    }

    private final GuardedCommands c = new GuardedCommands();
    private final List<Program> list = new ArrayList<>();
    private final String name;
    private long g = 0L;
    private long h = 0L;
    private int calls = 0;

    private RunsTest(int round) {
        name = "round " + round;
    }

    public static void main(String[] args) {
        for (int round = 0; round < ROUNDS; round++) {
            seed = round + 1;
            new RunsTest(round).run();
        }
        System.out.println(wrong == 0 ? "all " + answers + " answers are as due" : wrong + " answers are not as due");
        if (wrong != 0) {
            System.exit(1);
        }
    }

    private void run() {
        while (calls < MOST_CALLS / 4) {
            if (pick(3) == 0) {
                changeGuard();
            } else {
                make();
            }
        }
        while (calls < MOST_CALLS) {
            ask();
        }
    }

    // The same numbers each time, so that a fault can be seen again.
    private static long draw() {
        seed = seed * 6364136223846793005L + 1442695040888963407L;
        long mixed = (seed ^ seed >>> 29) * 0xBF58476D1CE4E5B9L;
        return mixed ^ mixed >>> 32;
    }

    private static int pick(int bound) {
        return (int) Long.remainderUnsigned(draw(), bound);
    }

    private void due(String call, long got, long want) {
        calls++;
        answers++;
        if (got != want) {
            wrong++;
            System.out.println(name + ", call " + calls + ": " + call + " answered " + got + ", due is " + want);
        }
    }

    private void changeGuard() {
        int which = pick(2) == 0 ? 0 : pick(5) - 2;
        int way = pick(4);
        if (way == 0) {
            setTo(which, which == 0 ? ~g : ~h);
            due("oppose(" + which + ")", c.oppose(which), Long.bitCount(which == 0 ? g : h));
        } else if (way == 1) {
            long condition = draw() & draw();
            if (pick(2) == 0) {
                condition &= draw();
            }
            setTo(which, condition);
            due("guard(" + which + ", " + condition + ")", c.guard(which, condition), Long.bitCount(condition));
        } else {
            compareOnce(which, pick(516) - 2, pick(12) - 1);
        }
    }

    private void compareOnce(int which, int form, int bound) {
        String call = "compare(" + which + ", " + form + ", " + bound + ")";
        if (form < 0 || form > 511) {
            due(call, c.compare(which, form, bound), -1);
            return;
        }
        if (bound < 0 || bound > 8) {
            due(call, c.compare(which, form, bound), -2);
            return;
        }
        long condition = 0L;
        for (int state = 0; state < 64; state++) {
            if (value(form, state) < bound) {
                condition |= 1L << state;
            }
        }
        setTo(which, condition);
        due(call, c.compare(which, form, bound), Long.bitCount(condition));
    }

    private void setTo(int which, long condition) {
        if (which == 0) {
            g = condition;
        } else {
            h = condition;
        }
    }

    private static int value(int form, int state) {
        return (form / 64 * (state / 8) + form / 8 % 8 * (state % 8) + form % 8) % 8;
    }

    private void make() {
        int kind = pick(12);
        if (kind == 0) {
            due("skip()", c.skip(), added(SKIP, 0, 0, -1));
        } else if (kind == 1) {
            due("fail()", c.fail(), added(FAIL, 0, 0, -1));
        } else if (kind <= 4) {
            int which = pick(4) - 1;
            int form = pick(20) == 0 ? pick(1000) - 300 : pick(512);
            int want = form < 0 || form > 511 ? -1 : added(ASSIGN, which, form, -2);
            due("assign(" + which + ", " + form + ")", c.assign(which, form), want);
        } else {
            makeOfTwo(kind <= 7 ? SEQUENCE : kind <= 9 ? CHOICE : LOOP);
        }
    }

    private void makeOfTwo(int kind) {
        int a = pickProgram();
        int b = pickProgram();
        boolean good = isGood(a) && isGood(b);
        // Following the runs step by step takes too long for programs that are too deep.
        if (good && list.get(a).work + list.get(b).work > MOST_WORK) {
            return;
        }
        int want = good ? added(kind, a, b, -2) : -1;
        if (kind == SEQUENCE) {
            due("sequence(" + a + ", " + b + ")", c.sequence(a, b), want);
        } else if (kind == CHOICE) {
            due("choice(" + a + ", " + b + ")", c.choice(a, b), want);
        } else {
            due("loop(" + a + ", " + b + ")", c.loop(a, b), want);
        }
    }

    private boolean isGood(int program) {
        return program >= 0 && program < list.size();
    }

    private int pickProgram() {
        return pick(30) == 0 ? pick(40) - 5 : pick(list.size() + (list.isEmpty() ? 1 : 0));
    }

    private int added(int kind, int first, int second, int refusal) {
        if (list.size() == 30) {
            return refusal;
        }
        Program made = new Program();
        made.kind = kind;
        made.work = 1;
        if (kind == ASSIGN) {
            made.which = first;
            made.form = second;
        } else if (kind >= SEQUENCE) {
            made.a = list.get(first);
            made.b = list.get(second);
            made.g = g;
            made.h = h;
            made.work = 1 + made.a.work + made.b.work;
        }
        for (int state = 0; state < 64; state++) {
            Found found = follow(made, state);
            made.ends[state] = found.ends;
            if (!found.bad) {
                made.sure |= 1L << state;
            }
        }
        list.add(made);
        return list.size() - 1;
    }

    private static Found follow(Program program, int state) {
        Found found = new Found();
        Map<Place, Boolean> open = new HashMap<>();
        List<Place> way = new ArrayList<>();
        List<List<Place>> waiting = new ArrayList<>();
        enter(new Place(new Rest(program, null), state), open, way, waiting, found);
        while (!way.isEmpty()) {
            List<Place> next = waiting.get(waiting.size() - 1);
            if (next.isEmpty()) {
                waiting.remove(waiting.size() - 1);
                open.put(way.remove(way.size() - 1), false);
            } else {
                enter(next.remove(next.size() - 1), open, way, waiting, found);
            }
        }
        return found;
    }

    private static void enter(Place place, Map<Place, Boolean> open, List<Place> way,
            List<List<Place>> waiting, Found found) {
        Boolean seen = open.get(place);
        if (seen != null) {
            // Coming back to a place on the way here is a run that can go on forever.
            found.bad |= seen;
            return;
        }
        open.put(place, true);
        way.add(place);
        waiting.add(step(place, found));
    }

    private static List<Place> step(Place place, Found found) {
        List<Place> next = new ArrayList<>();
        int state = place.state;
        if (place.rest == null) {
            found.ends |= 1L << state;
            return next;
        }
        Program p = place.rest.next;
        Rest behind = place.rest.behind;
        boolean inG = (p.g >>> state & 1L) == 1L;
        boolean inH = (p.h >>> state & 1L) == 1L;
        Rest afterBody = p.kind == LOOP ? place.rest : behind;
        switch (p.kind) {
            case SKIP:
                next.add(new Place(behind, state));
                break;
            case FAIL:
                found.bad = true;
                break;
            case ASSIGN:
                int value = value(p.form, state);
                next.add(new Place(behind, p.which == 0 ? 8 * value + state % 8 : state / 8 * 8 + value));
                break;
            case SEQUENCE:
                next.add(new Place(new Rest(p.a, new Rest(p.b, behind)), state));
                break;
            default:
                if (inG) {
                    next.add(new Place(new Rest(p.a, afterBody), state));
                }
                if (inH) {
                    next.add(new Place(new Rest(p.b, afterBody), state));
                }
                if (!inG && !inH && p.kind == LOOP) {
                    next.add(new Place(behind, state));
                }
                if (!inG && !inH && p.kind == CHOICE) {
                    found.bad = true;
                }
        }
        return next;
    }

    private void ask() {
        int a = pickProgram();
        int b = pickProgram();
        Program p = isGood(a) ? list.get(a) : null;
        long q = someCondition(p);
        int state = pick(68) - 2;
        switch (pick(9)) {
            case 0:
                due("programs()", c.programs(), list.size());
                break;
            case 1:
                boolean good = p != null && state >= 0 && state < 64;
                due("ends(" + a + ", " + state + ")", c.ends(a, state), good ? p.ends[state] : 0L);
                break;
            case 2:
                due("sure(" + a + ")", c.sure(a), p == null ? 0L : p.sure);
                break;
            case 3:
                due("demand(" + a + ", " + q + ")", c.demand(a, q), p == null ? 0L : p.sure & weak(p, q));
                break;
            case 4:
                due("weakDemand(" + a + ", " + q + ")", c.weakDemand(a, q), p == null ? 0L : weak(p, q));
                break;
            case 5:
                due("image(" + a + ", " + q + ")", c.image(a, q), p == null ? 0L : image(p, q));
                break;
            case 6:
                due("refines(" + a + ", " + b + ")", c.refines(a, b),
                        p == null || !isGood(b) ? -1 : refines(p, list.get(b)));
                break;
            case 7:
                due("settled(" + a + ")", c.settled(a), p == null ? -1 : settled(p));
                break;
            default:
                due("widest(" + a + ")", c.widest(a), p == null ? -1 : widest(p));
        }
    }

    // Conditions near to a program's own ends: others would nearly always be answered by nothing.
    private static long someCondition(Program p) {
        long condition = draw();
        int way = pick(4);
        if (p == null || way == 0) {
            return condition;
        }
        long near = 0L;
        for (int times = 0; times < 10 * way; times++) {
            near |= p.ends[pick(64)];
        }
        return near;
    }

    private static long weak(Program p, long q) {
        long states = 0L;
        for (int state = 0; state < 64; state++) {
            boolean all = true;
            for (int end = 0; end < 64; end++) {
                all &= (p.ends[state] >>> end & 1L) == 0L || (q >>> end & 1L) == 1L;
            }
            if (all) {
                states |= 1L << state;
            }
        }
        return states;
    }

    private static long image(Program p, long q) {
        long states = 0L;
        for (int state = 0; state < 64; state++) {
            states |= (q >>> state & 1L) == 1L ? p.ends[state] : 0L;
        }
        return states;
    }

    /**
     * Every condition can't be tried, but the conditions that are all states but
     * one, and all states, are enough: the least demand for a condition is what
     * the least demands for all states and for those that leave out one of the
     * states outside of it have in common.
     */
    private static int refines(Program a, Program b) {
        boolean kept = (a.sure & ~b.sure) == 0L;
        for (int left = 0; left < 64; left++) {
            long q = ~(1L << left);
            long demandOfA = a.sure & weak(a, q);
            long demandOfB = b.sure & weak(b, q);
            kept &= (demandOfA & ~demandOfB) == 0L;
        }
        return kept ? 1 : 0;
    }

    private static int settled(Program p) {
        for (int state = 0; state < 64; state++) {
            if ((p.sure >>> state & 1L) == 1L && Long.bitCount(p.ends[state]) != 1) {
                return 0;
            }
        }
        return 1;
    }

    private static int widest(Program p) {
        int most = 0;
        for (long ends : p.ends) {
            most = Long.bitCount(ends) > most ? Long.bitCount(ends) : most;
        }
        return most;
    }
}
