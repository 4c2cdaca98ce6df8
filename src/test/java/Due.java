import java.util.function.IntUnaryOperator;

/** Counts the answers that are not due; a test ends with close(), which exits with 1 if there was one. */
final class Due {
    interface Call {
        Object answer();
    }

    private final String test;
    private int wrong;
    private int asked;

    Due(String test) {
        this.test = test;
    }

    void same(String call, Object got, Object want) {
        asked++;
        if (!got.equals(want)) {
            wrong++;
            System.out.println(test + ": " + call + " answered " + got + ", due is " + want);
        }
    }

    /** Takes the exact class of what is thrown: a class below it is wrong, too. */
    void thrown(String call, Class<? extends RuntimeException> kind, Call made) {
        same(call, answerOf(made), "throws." + kind.getSimpleName());
    }

    /** The answer as a text, or throws. and the name of the exception that came instead. */
    static String answerOf(Call made) {
        try {
            return String.valueOf(made.answer());
        } catch (RuntimeException e) {
            return "throws." + e.getClass().getSimpleName();
        }
    }

    void close() {
        System.out.println(test + ": " + asked + " answers, " + wrong + " wrong");
        if (wrong != 0) {
            System.exit(1);
        }
    }

    static UnlikeUnion withJobs(int... times) {
        UnlikeUnion x = new UnlikeUnion();
        for (int at = 0; at + 2 < times.length; at += 3) {
            x.addJob(times[at], times[at + 1], times[at + 2]);
        }
        return x;
    }

    /** An own plan of one's choice, told by its machines, one digit for each job. */
    static UnlikeUnion withPlan(String plan, int... times) {
        UnlikeUnion x = withJobs(times);
        for (int job = 0; job < plan.length(); job++) {
            x.assign(job, plan.charAt(job) - '0');
        }
        return x;
    }

    static String planOf(UnlikeUnion x) {
        return digits(x, x::machine);
    }

    static String shortestPlanOf(UnlikeUnion x) {
        return digits(x, x::shortestMachine);
    }

    static String roundedPlanOf(UnlikeUnion x) {
        return digits(x, x::roundedMachine);
    }

    private static String digits(UnlikeUnion x, IntUnaryOperator machineOf) {
        StringBuilder text = new StringBuilder();
        for (int job = 0; job < x.jobs(); job++) {
            text.append(machineOf.applyAsInt(job));
        }
        return text.toString();
    }

    /** A share of the denominator 1 as its numerator alone, others as fractions. */
    static String sharesOf(UnlikeUnion x) {
        StringBuilder text = new StringBuilder();
        for (int job = 0; job < x.jobs(); job++) {
            text.append(job > 0 ? ", " : "");
            for (int machine = 0; machine < 3; machine++) {
                int over = x.numerator(job, machine);
                int under = x.denominator(job, machine);
                text.append(machine > 0 ? " " : "").append(over).append(under == 1 ? "" : "/" + under);
            }
        }
        return text.toString();
    }

    /** How many calls stateOf makes; an object is asked 512 at the most. */
    static int callsOfState(int jobs) {
        return 13 + 14 * jobs;
    }

    /** Everything that an object answers without being changed by it. */
    static String stateOf(UnlikeUnion x) {
        StringBuilder text = new StringBuilder();
        text.append("jobs ").append(x.jobs()).append(" shortest ").append(x.shortest()).append(' ')
            .append(x.shortestByTrying()).append(" bound ").append(x.bound()).append(" least ")
            .append(x.leastNumerator()).append('/').append(x.leastDenominator()).append(" rounded ")
            .append(x.roundedLength()).append(' ').append(x.excess()).append(" length ").append(x.length());
        for (int machine = 0; machine < 3; machine++) {
            text.append(" load ").append(x.load(machine));
        }
        for (int job = 0; job < x.jobs(); job++) {
            text.append("\n job ").append(job).append(": ").append(x.machine(job)).append(' ')
                .append(x.shortestMachine(job)).append(' ').append(x.roundedMachine(job)).append(' ')
                .append(x.isDivided(job));
            for (int machine = 0; machine < 3; machine++) {
                text.append(' ').append(x.time(job, machine)).append(" of ").append(x.numerator(job, machine))
                    .append('/').append(x.denominator(job, machine));
            }
        }
        return text.toString();
    }
}
