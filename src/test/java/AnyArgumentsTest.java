import java.util.ArrayList;
import java.util.List;

/**
 * No call throws, for any arguments in any state (LANGUAGE.md, rule 7). What the
 * class looks up in its arrays hangs on how many programs there are, on the
 * programs and on the state that a call names. So for each count of programs, 0
 * to 30, every method is called with every pair of numbers in and around the
 * good ones and with numbers that wrap around; then one object is called far more
 * often than 512 times. Up to the 512th call, what is answered must lie between
 * the least and the greatest answer that the document names for the method.
 */
public final class AnyArgumentsTest {
    private static final int LEAST = Integer.MIN_VALUE;
    private static final int GREATEST = Integer.MAX_VALUE;
    private static final int MOST_PROGRAMS = 30;
    private static final int LATE_CALLS = 200000;

    // A program's number is multiplied by 64 to find its place, so numbers near multiples of 2^26 wrap around.
    private static final int[] FAR = {LEAST, LEAST + 1, -(1 << 26) - 1, -(1 << 26), 1 << 26, (1 << 26) + 1,
        (1 << 26) * 31 + 63, GREATEST - 63, GREATEST - 1, GREATEST, 127, 128, 511, 512, 513, 1919, 1920, 1921};
    private static final long[] CONDITIONS = {0L, 1L, Long.MIN_VALUE, Long.MAX_VALUE, -1L, 0x00FF00FF0F0F3355L};

    private static int wrong = 0;
    private static long calls = 0;

    /** A call with two numbers; a method that takes fewer leaves them, one that takes a condition is handed one. */
    private interface Call {
        long on(GuardedCommands c, int first, int second);
    }

    private record Named(String name, Call call, long least, long greatest) { }

    private static final List<Named> MAKERS = List.of(
            new Named("skip", (c, a, b) -> c.skip(), -1, 29),
            new Named("fail", (c, a, b) -> c.fail(), -1, 29),
            new Named("assign", (c, a, b) -> c.assign(a, b), -2, 29),
            new Named("sequence", (c, a, b) -> c.sequence(a, b), -2, 29),
            new Named("choice", (c, a, b) -> c.choice(a, b), -2, 29),
            new Named("loop", (c, a, b) -> c.loop(a, b), -2, 29));

    private static final List<Named> OTHERS = new ArrayList<>(List.of(
            new Named("oppose", (c, a, b) -> c.oppose(a), 0, 64),
            new Named("compare below 3", (c, a, b) -> c.compare(a, b, 3), -1, 64),
            new Named("compare of y", (c, a, b) -> c.compare(a, 8, b), -2, 64),
            new Named("compare", (c, a, b) -> c.compare(b, a, b), -2, 64),
            new Named("programs", (c, a, b) -> c.programs(), 0, 30),
            new Named("ends", (c, a, b) -> c.ends(a, b), Long.MIN_VALUE, Long.MAX_VALUE),
            new Named("sure", (c, a, b) -> c.sure(a), Long.MIN_VALUE, Long.MAX_VALUE),
            new Named("refines", (c, a, b) -> c.refines(a, b), -1, 1),
            new Named("settled", (c, a, b) -> c.settled(a), -1, 1),
            new Named("widest", (c, a, b) -> c.widest(a), -1, 64)));

    static {
        for (long q : CONDITIONS) {
            OTHERS.add(new Named("guard " + q, (c, a, b) -> c.guard(a, q), 0, 64));
            OTHERS.add(new Named("demand " + q, (c, a, b) -> c.demand(a, q), Long.MIN_VALUE, Long.MAX_VALUE));
            OTHERS.add(new Named("weakDemand " + q, (c, a, b) -> c.weakDemand(a, q), Long.MIN_VALUE, Long.MAX_VALUE));
            OTHERS.add(new Named("image " + q, (c, a, b) -> c.image(a, q), Long.MIN_VALUE, Long.MAX_VALUE));
        }
    }

    public static void main(String[] args) {
        int[] numbers = numbers();
        for (int count = 0; count <= MOST_PROGRAMS; count++) {
            for (Named other : OTHERS) {
                everyPair(other, numbers, count);
            }
            for (Named maker : MAKERS) {
                everyPairMakes(maker, numbers, count);
            }
        }
        longAfterThe512thCall(numbers);
        System.out.println(wrong == 0 ? "none of " + calls + " calls threw" : wrong + " calls are not as due");
        if (wrong != 0) {
            System.exit(1);
        }
    }

    /** All good programs and states, what stands next to them, and numbers far away. */
    private static int[] numbers() {
        int near = 68;
        int[] all = new int[near + FAR.length];
        for (int place = 0; place < near; place++) {
            all[place] = place - 2;
        }
        System.arraycopy(FAR, 0, all, near, FAR.length);
        return all;
    }

    private static GuardedCommands withPrograms(int count) {
        GuardedCommands c = new GuardedCommands();
        c.compare(0, 64, 5);
        c.compare(1, 8, 3);
        for (int number = 0; number < count; number++) {
            switch (number % 6) {
                case 0: c.assign(number & 1, 73 + number); break;
                case 1: c.skip(); break;
                case 2: c.choice(number - 1, number - 2); break;
                case 3: c.fail(); break;
                case 4: c.sequence(number - 2, number - 4); break;
                default: c.loop(number - 5, number - 2);
            }
        }
        return c;
    }

    // A new object for each first number: none is called more than 512 times.
    private static void everyPair(Named named, int[] numbers, int count) {
        for (int first : numbers) {
            GuardedCommands c = withPrograms(count);
            for (int second : numbers) {
                answerInRange(c, named, first, second);
            }
            keepsCount(c, named, count);
        }
    }

    private static void everyPairMakes(Named maker, int[] numbers, int count) {
        for (int first : numbers) {
            GuardedCommands c = withPrograms(count);
            for (int second : numbers) {
                long answer = answerInRange(c, maker, first, second);
                if (answer >= 0) {
                    keepsCount(c, maker, count + 1);
                    c = withPrograms(count);
                }
            }
            keepsCount(c, maker, count);
        }
    }

    private static void keepsCount(GuardedCommands c, Named named, int count) {
        if (c.programs() != count) {
            wrong++;
            System.out.println(named.name + ": there are " + c.programs() + " programs, due are " + count);
        }
    }

    private static long answerInRange(GuardedCommands c, Named named, int first, int second) {
        long answer = answer(c, named, first, second);
        if (answer < named.least || answer > named.greatest) {
            wrong++;
            System.out.println(named.name + " with " + first + " and " + second + " answered " + answer);
        }
        return answer;
    }

    private static long answer(GuardedCommands c, Named named, int first, int second) {
        calls++;
        try {
            return named.call.on(c, first, second);
        } catch (RuntimeException | Error thrown) {
            wrong++;
            System.out.println(named.name + " with " + first + " and " + second + " threw " + thrown);
            return -1;
        }
    }

    // What is answered there is free, but rule 7 has no end: the calls must still come back.
    private static void longAfterThe512thCall(int[] numbers) {
        List<Named> all = new ArrayList<>(MAKERS);
        all.addAll(OTHERS);
        GuardedCommands c = new GuardedCommands();
        for (int call = 0; call < LATE_CALLS; call++) {
            int first = numbers[call % numbers.length];
            int second = numbers[call / 7 % numbers.length];
            answer(c, all.get(call % all.size()), first, second);
        }
    }
}
