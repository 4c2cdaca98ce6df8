/** Promises 7 to 9, the boundary cases: no job, seven jobs, times of 0, 1 and 50, equal plans, no such job. */
final class BoundaryShortestTest {
    private static final Cases CASES = new Cases("BoundaryShortestTest");

    public static void main(String[] args) {
        lengths();
        sameByTrying();
        CASES.noSuchJob("promise 9: shortestMachine", (x, job) -> x.shortestMachine(job));
        machines();
        CASES.close();
    }

    private static void lengths() {
        length("no job", 0);
        length("one job of the time 1", 1, 1, 1, 1);
        length("one job of the time 50", 50, 50, 50, 50);
        length("the time 0 is no time on the machine 0", 50, 0, 50, 50);
        length("the time 0 is no time on the machine 1", 50, 50, 0, 50);
        length("the time 0 is no time on the machine 2", 50, 50, 50, 0);
        length("two jobs on the only machine where they can be done", 100, 0, 50, 0, 0, 50, 0);
        CASES.test("promise 7: seven jobs of 50 on one machine", () -> CASES.same(Cases.sevenAlike(0, 0, 50).shortest(), 350));
        CASES.test("promise 8: seven jobs of 50 on one machine", () -> CASES.same(Cases.sevenAlike(0, 0, 50).shortestByTrying(), 350));
        CASES.test("promise 7: seven jobs of 50", () -> CASES.same(Cases.sevenAlike(50, 50, 50).shortest(), 150));
        CASES.test("promise 8: seven jobs of 50", () -> CASES.same(Cases.sevenAlike(50, 50, 50).shortestByTrying(), 150));
        CASES.test("promise 7: seven jobs of 1", () -> CASES.same(Cases.sevenAlike(1, 1, 1).shortest(), 3));
        CASES.test("promise 8: seven jobs of 1", () -> CASES.same(Cases.sevenAlike(1, 1, 1).shortestByTrying(), 3));
        CASES.test("promise 7: no job any more", () -> {
            UnlikeUnion x = Due.withJobs(5, 6, 7);
            CASES.same("with one", x.shortest(), 5);
            x.removeLast();
            CASES.same(x.shortest(), 0);
        });
        CASES.test("promise 8: no job any more", () -> {
            UnlikeUnion x = Due.withJobs(5, 6, 7);
            CASES.same("with one", x.shortestByTrying(), 5);
            x.removeLast();
            CASES.same(x.shortestByTrying(), 0);
        });
        CASES.test("promise 7: a time set to 0, and then from 0", () -> {
            UnlikeUnion x = Due.withPlan("2", 5, 6, 7);
            x.setTime(0, 0, 0);
            CASES.same("to 0", x.shortest(), 6);
            x.setTime(0, 0, 1);
            CASES.same("from 0", x.shortest(), 1);
        });
        CASES.test("promise 8: a time set to 0, and then from 0", () -> {
            UnlikeUnion x = Due.withPlan("2", 5, 6, 7);
            x.setTime(0, 0, 0);
            CASES.same("to 0", x.shortestByTrying(), 6);
            x.setTime(0, 0, 1);
            CASES.same("from 0", x.shortestByTrying(), 1);
        });
    }

    private static void length(String name, int want, int... times) {
        CASES.test("promise 7: " + name, () -> CASES.same(Due.withJobs(times).shortest(), want));
        CASES.test("promise 8: " + name, () -> CASES.same(Due.withJobs(times).shortestByTrying(), want));
    }

    private static void sameByTrying() {
        CASES.test("promise 8: the same with each number of jobs from none to seven", () -> {
            UnlikeUnion x = Cases.seven();
            for (int jobs = 7; jobs >= 0; jobs--) {
                CASES.same("with " + jobs + " jobs", x.shortestByTrying(), x.shortest());
                x.removeLast();
            }
        });
        CASES.test("promise 8: trying leaves the machines of the shortest plan", () -> {
            UnlikeUnion x = Cases.seven();
            String plan = Due.shortestPlanOf(x);
            x.shortestByTrying();
            CASES.same(Due.shortestPlanOf(x), plan);
        });
    }

    private static void machines() {
        plan("of three equal machines the lowest", "0", 6, 6, 6);
        plan("of the machines 1 and 2 the lower one", "1", 7, 6, 6);
        plan("of the machines 0 and 2 the lower one", "0", 6, 7, 6);
        plan("not the machine 0 where the time is 0", "1", 0, 50, 50);
        plan("not the machine 1 where the time is 0", "2", 50, 0, 49);
        plan("not the machine 2 where the time is 0", "1", 50, 49, 0);
        plan("the lowest for the job 0 before the job 1", "01", 6, 6, 0, 6, 6, 0);
        // The job 0 may be on the machine 0 just if the job 1 is on the machine 2.
        plan("the lowest for the job 0 comes at the cost of the job 1", "02", 6, 6, 0, 6, 0, 6);
        plan("the lowest for the last of seven jobs", "2222220",
            0, 0, 1, 0, 0, 1, 0, 0, 1, 0, 0, 1, 0, 0, 1, 0, 0, 1, 6, 6, 1);
        plan("seven jobs, the lowest of many", "0220211", 4, 2, 4, 0, 2, 1, 5, 4, 1, 2, 3, 2, 5, 5, 4, 0, 2, 0, 3, 4, 4);
        CASES.test("promise 9: seven jobs of 50", () -> CASES.same(Due.shortestPlanOf(Cases.sevenAlike(50, 50, 50)), "0001112"));
        CASES.test("promise 9: seven jobs of 50 on one machine",
            () -> CASES.same(Due.shortestPlanOf(Cases.sevenAlike(0, 0, 50)), "2222222"));
        CASES.test("promise 9: another first job where another one was removed", () -> {
            UnlikeUnion x = Due.withJobs(5, 6, 7);
            CASES.same("before", x.shortestMachine(0), 0);
            x.removeLast();
            x.addJob(0, 0, 3);
            CASES.same(x.shortestMachine(0), 2);
        });
        CASES.test("promise 9: a time set to 0", () -> {
            UnlikeUnion x = Due.withPlan("2", 5, 6, 7);
            CASES.same("before", x.shortestMachine(0), 0);
            x.setTime(0, 0, 0);
            CASES.same(x.shortestMachine(0), 1);
        });
    }

    private static void plan(String name, String want, int... times) {
        CASES.test("promise 9: " + name, () -> CASES.same(Due.shortestPlanOf(Due.withJobs(times)), want));
    }
}
