/** Promises 16 to 18, the boundary cases: no job, seven jobs, as many divided jobs as machines, no such job. */
final class BoundaryRoundingTest {
    private static final Cases CASES = new Cases("BoundaryRoundingTest");
    // The bound is 50, and the length of the rounded plan one below twice that.
    private static final int[] NEARLY_TWICE = {49, 0, 4, 50, 50, 0, 0, 47, 19};

    public static void main(String[] args) {
        CASES.noSuchJob("promise 16: roundedMachine", (x, job) -> x.roundedMachine(job));
        machines();
        lengths();
        excesses();
        CASES.close();
    }

    private static void machines() {
        plan("a job that is not divided, on the machine of its share 1", "1", 9, 6, 6);
        plan("a job that can be done on one machine", "2", 0, 0, 50);
        plan("two divided jobs, each on its lowest machine", "0012", 6, 6, 6, 6, 6, 6, 6, 6, 6, 6, 6, 6);
        // Its shares are 1/3 each.
        plan("a job with shares on all three machines", "100", 0, 2, 0, 2, 2, 0, 3, 3, 3);
        // The jobs 1 and 2 are divided, both between the machine 0 and another one.
        plan("the lower divided job has the machine that both could have", "202", 3, 0, 1, 2, 2, 2, 2, 0, 2);
        // The shares are 2/3 1/3 0 and then 1/2 0 1/2 of the jobs 2 and 3, whose lowest machine is the same.
        plan("no two divided jobs on one machine", "1202", 3, 2, 0, 0, 0, 2, 3, 3, 0, 2, 3, 2);
        plan("a machine of a job that is not divided may be a divided one's, too", "001", NEARLY_TWICE);
        plan("three divided jobs, the lowest machine for the lowest of them", "1002",
            0, 3, 2, 2, 1, 0, 2, 5, 3, 3, 2, 3);
        plan("three divided jobs, a lower one gives way to the last", "12200", 5, 3, 1, 4, 0, 3, 0, 4, 1, 4, 4, 0, 2, 4, 3);
        // The share of the job 0 on the machine 0 is 0, though it can be done there.
        plan("not a machine on which a divided job has the share 0", "1212002",
            0, 5, 2, 2, 5, 1, 5, 2, 4, 0, 3, 3, 4, 0, 4, 5, 0, 5, 0, 2, 3);
        CASES.test("promise 16: seven jobs, three of them divided", () -> CASES.same(Due.roundedPlanOf(Cases.seven()), "0122210"));
        CASES.test("promise 16: seven jobs of 50", () -> CASES.same(Due.roundedPlanOf(Cases.sevenAlike(50, 50, 50)), "0001122"));
        CASES.test("promise 16: seven jobs of 50 on one machine",
            () -> CASES.same(Due.roundedPlanOf(Cases.sevenAlike(0, 0, 50)), "2222222"));
        CASES.test("promise 16: another job where one was removed", () -> {
            UnlikeUnion x = Due.withJobs(5, 6, 7);
            CASES.same("before", x.roundedMachine(0), 0);
            x.removeLast();
            x.addJob(0, 0, 3);
            CASES.same(x.roundedMachine(0), 2);
        });
        CASES.test("promise 16: a time set to 0", () -> {
            UnlikeUnion x = Due.withPlan("2", 5, 6, 7);
            CASES.same("before", x.roundedMachine(0), 0);
            x.setTime(0, 0, 0);
            CASES.same(x.roundedMachine(0), 1);
        });
    }

    private static void plan(String name, String want, int... times) {
        CASES.test("promise 16: " + name, () -> CASES.same(Due.roundedPlanOf(Due.withJobs(times)), want));
    }

    private static void lengths() {
        length("no job", 0);
        length("one job of the time 1", 1, 1, 1, 1);
        length("one job of the time 50", 50, 50, 50, 50);
        length("one below twice the bound", 99, NEARLY_TWICE);
        CASES.test("promise 17: at most twice the bound", () -> {
            UnlikeUnion x = Due.withJobs(NEARLY_TWICE);
            CASES.same("bound()", x.bound(), 50);
            CASES.same("more than twice", x.roundedLength() > 2 * x.bound(), false);
        });
        CASES.test("promise 17: seven jobs of 50", () -> CASES.same(Cases.sevenAlike(50, 50, 50).roundedLength(), 150));
        CASES.test("promise 17: seven jobs of 50 on one machine", () -> CASES.same(Cases.sevenAlike(50, 0, 0).roundedLength(), 350));
        CASES.test("promise 17: seven jobs, three of them divided", () -> CASES.same(Cases.seven().roundedLength(), 7));
        CASES.test("promise 17: no job any more", () -> {
            UnlikeUnion x = Due.withJobs(5, 6, 7);
            CASES.same("with one", x.roundedLength(), 5);
            x.removeLast();
            CASES.same(x.roundedLength(), 0);
        });
    }

    private static void length(String name, int want, int... times) {
        CASES.test("promise 17: " + name, () -> CASES.same(Due.withJobs(times).roundedLength(), want));
    }

    private static void excesses() {
        excess("no job", 1.0f);
        excess("one job", 1.0f, 5, 6, 7);
        excess("nearly twice the shortest one", (float) 99 / (float) 50, NEARLY_TWICE);
        excess("a float that is no short decimal", (float) 77 / (float) 39, 36, 0, 39, 4, 39, 27, 34, 0, 48, 39, 38, 43);
        CASES.test("promise 18: seven jobs", () -> CASES.same(Cases.seven().excess(), (float) 7 / (float) 6));
        CASES.test("promise 18: seven jobs of 50 on one machine", () -> CASES.same(Cases.sevenAlike(50, 0, 0).excess(), 1.0f));
        CASES.test("promise 18: no job any more", () -> {
            UnlikeUnion x = Due.withJobs(NEARLY_TWICE);
            CASES.same("with three", x.excess(), (float) 99 / (float) 50);
            x.removeLast();
            x.removeLast();
            x.removeLast();
            CASES.same(x.excess(), 1.0f);
        });
    }

    private static void excess(String name, float want, int... times) {
        CASES.test("promise 18: " + name, () -> CASES.same(Due.withJobs(times).excess(), want));
    }
}
