import java.util.HashSet;
import java.util.Set;
import java.util.function.Function;
import java.util.function.Supplier;

/** Tests of boundary cases: each has a name of its own, after its promise and its case, and fails by itself. */
final class Cases {
    interface Body {
        void run();
    }

    interface JobCall {
        Object ask(UnlikeUnion x, int job);
    }

    interface PlaceCall {
        Object ask(UnlikeUnion x, int job, int machine);
    }

    private final String file;
    private final Set<String> names = new HashSet<>();
    private String name;
    private int asked;
    private int wrong;
    private int failed;

    Cases(String file) {
        this.file = file;
    }

    void test(String caseName, Body body) {
        name = caseName;
        asked = 0;
        wrong = 0;
        if (!names.add(caseName)) {
            tellWrong("is the name of another test, too");
        }
        try {
            body.run();
        } catch (RuntimeException e) {
            tellWrong("ended with " + e);
        }
        if (asked == 0) {
            tellWrong("asked nothing");
        }
        failed += wrong > 0 ? 1 : 0;
    }

    private void tellWrong(String what) {
        wrong++;
        System.out.println(file + ": " + name + ": " + what);
    }

    void same(Object got, Object want) {
        same("it", got, want);
    }

    void same(String call, Object got, Object want) {
        asked++;
        if (!got.equals(want)) {
            tellWrong(call + " answered " + got + ", due is " + want);
        }
    }

    void thrown(Class<? extends RuntimeException> kind, Due.Call made) {
        same(Due.answerOf(made), "throws." + kind.getSimpleName());
    }

    /** Whether or not its results stand already, an object that refuses a call goes on as one that was not called. */
    void refused(Class<? extends RuntimeException> kind, Supplier<UnlikeUnion> made, Function<UnlikeUnion, Object> call) {
        String state = Due.stateOf(made.get());
        String later = laterAnswers(made.get());
        UnlikeUnion answered = made.get();
        Due.stateOf(answered);
        thrown(kind, () -> call.apply(answered));
        same("the state behind it", Due.stateOf(answered), state);
        same("a later call", laterAnswers(answered), later);
        UnlikeUnion fresh = made.get();
        thrown(kind, () -> call.apply(fresh));
        same("the first state behind it", Due.stateOf(fresh), state);
        UnlikeUnion changed = made.get();
        thrown(kind, () -> call.apply(changed));
        same("the first later call", laterAnswers(changed), later);
    }

    /** Answers of calls that change the object, and what it shows then, until it has no job. */
    private static String laterAnswers(UnlikeUnion x) {
        StringBuilder text = new StringBuilder();
        text.append(x.improve()).append(' ').append(Due.planOf(x)).append(' ');
        text.append(Due.answerOf(() -> x.addJob(3, 4, 5))).append(' ').append(Due.planOf(x)).append(' ');
        text.append(x.takeRounded()).append(' ').append(Due.planOf(x)).append(' ');
        text.append(Due.stateOf(x));
        for (int round = 0; round < 8; round++) {
            text.append(' ').append(x.removeLast()).append(' ').append(x.length());
        }
        return text.toString();
    }

    /** Tests of the sentence that an IndexOutOfBoundsException is thrown if there is no such job. */
    void noSuchJob(String call, JobCall made) {
        noSuchJob(call + " without a job at all", UnlikeUnion::new, made, 0);
        noSuchJob(call + " of the job -1", Cases::two, made, -1);
        noSuchJob(call + " of the job 2 of two", Cases::two, made, 2);
        noSuchJob(call + " of the job 7 of seven", Cases::seven, made, 7);
        noSuchJob(call + " of the job -1 of seven", Cases::seven, made, -1);
        noSuchJob(call + " of a job that is removed", Cases::twoOfThree, made, 2);
        noSuchJob(call + " of the least int as job", Cases::seven, made, Integer.MIN_VALUE);
        noSuchJob(call + " of the greatest int as job", Cases::seven, made, Integer.MAX_VALUE);
    }

    private void noSuchJob(String caseName, Supplier<UnlikeUnion> on, JobCall made, int job) {
        test(caseName, () -> refused(IndexOutOfBoundsException.class, on, x -> made.ask(x, job)));
    }

    /** The same of jobs and machines. Some of these places would be right, if job and machine were looked at as one. */
    void noSuchPlace(String call, PlaceCall made) {
        noSuchJob(call, (x, job) -> made.ask(x, job, 0));
        noSuchMachine(call + " of the job -1 on the machine 2", made, -1, 2);
        noSuchMachine(call + " of the machine -1", made, 1, -1);
        noSuchMachine(call + " of the machine 3", made, 0, 3);
        noSuchMachine(call + " of the least int as machine", made, 1, Integer.MIN_VALUE);
        noSuchMachine(call + " of the greatest int as machine", made, 0, Integer.MAX_VALUE);
        noSuchMachine(call + " of the job -1 on the machine 3", made, -1, 3);
        noSuchMachine(call + " of the job 2 of two on the machine -1", made, 2, -1);
        // Three times this job is -1 in an int.
        noSuchMachine(call + " of a job that wraps around to the first place", made, 1431655765, 1);
    }

    private void noSuchMachine(String caseName, PlaceCall made, int job, int machine) {
        test(caseName, () -> refused(IndexOutOfBoundsException.class, Cases::two, x -> made.ask(x, job, machine)));
    }

    static UnlikeUnion two() {
        return Due.withJobs(5, 6, 7, 9, 8, 4);
    }

    static UnlikeUnion twoOfThree() {
        UnlikeUnion x = Due.withJobs(5, 6, 7, 9, 8, 4, 3, 3, 3);
        x.removeLast();
        return x;
    }

    /** Three of these are divided: the jobs 1, 4 and 6. */
    static UnlikeUnion seven() {
        return Due.withJobs(4, 2, 4, 0, 2, 1, 5, 4, 1, 2, 3, 2, 5, 5, 4, 0, 2, 0, 3, 4, 4);
    }

    static UnlikeUnion sevenAlike(int first, int second, int third) {
        UnlikeUnion x = new UnlikeUnion();
        for (int job = 0; job < 7; job++) {
            x.addJob(first, second, third);
        }
        return x;
    }

    void close() {
        System.out.println(file + ": " + names.size() + " tests, " + failed + " failed");
        if (failed > 0) {
            System.exit(1);
        }
    }
}
