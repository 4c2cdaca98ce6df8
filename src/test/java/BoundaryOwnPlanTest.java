/** Promises 19 to 24, the boundary cases: no job, seven jobs, times of 0 and 50, equal changes, refused calls. */
final class BoundaryOwnPlanTest {
    private static final Cases CASES = new Cases("BoundaryOwnPlanTest");

    public static void main(String[] args) {
        CASES.noSuchPlace("promise 19: assign", (x, job, machine) -> x.assign(job, machine));
        assignRefused();
        assignTaken();
        CASES.noSuchJob("promise 20: machine", (x, job) -> x.machine(job));
        machines();
        noSuchMachine();
        loads();
        lengths();
        noChange();
        equalChanges();
        changesOfSeven();
        takeRounded();
        CASES.close();
    }

    private static void assignRefused() {
        notThere("the time 0 on the machine 0", 0, 0, 5, 5);
        notThere("the time 0 on the machine 1", 1, 5, 0, 5);
        notThere("the time 0 on the machine 2", 2, 5, 5, 0);
        notThere("the time 0 on another machine than the only one", 0, 0, 0, 5);
        CASES.test("promise 19: the time 0 for the last of seven jobs", () -> CASES.refused(IllegalStateException.class,
            () -> Due.withJobs(1, 1, 1, 1, 1, 1, 1, 1, 1, 1, 1, 1, 1, 1, 1, 1, 1, 1, 50, 50, 0), x -> x.assign(6, 2)));
        CASES.test("promise 19: a time set to 0", () -> {
            UnlikeUnion x = Due.withJobs(5, 6, 7);
            x.setTime(0, 2, 0);
            CASES.thrown(IllegalStateException.class, () -> x.assign(0, 2));
            CASES.same("its machine", x.machine(0), 0);
        });
        // Behind the machine 2 of the job 0 comes the machine 0 of the job 1, which has the time 0.
        CASES.test("promise 19: no machine 3 comes before a time 0", () -> CASES.refused(IndexOutOfBoundsException.class,
            () -> Due.withJobs(5, 6, 7, 0, 5, 5), x -> x.assign(0, 3)));
        CASES.test("promise 19: no machine 3 for a job with a time 0", () -> CASES.refused(IndexOutOfBoundsException.class,
            () -> Due.withJobs(0, 0, 7), x -> x.assign(0, 3)));
        CASES.test("promise 19: a removed job comes before its time 0", () -> CASES.refused(IndexOutOfBoundsException.class,
            () -> {
                UnlikeUnion x = Due.withJobs(5, 6, 7, 0, 5, 5);
                x.removeLast();
                return x;
            }, x -> x.assign(1, 0)));
    }

    private static void notThere(String name, int machine, int... times) {
        CASES.test("promise 19: " + name,
            () -> CASES.refused(IllegalStateException.class, () -> Due.withJobs(times), x -> x.assign(0, machine)));
    }

    private static void assignTaken() {
        CASES.test("promise 19: the machine that it has", () -> {
            UnlikeUnion x = Due.withJobs(5, 6, 7);
            CASES.same(x.assign(0, 0), 0);
            CASES.same("the state", Due.stateOf(x), Due.stateOf(Due.withJobs(5, 6, 7)));
        });
        CASES.test("promise 19: a machine with the time 50", () -> {
            UnlikeUnion x = Due.withJobs(1, 1, 50);
            CASES.same(x.assign(0, 2), 0);
            CASES.same("back", x.assign(0, 1), 2);
        });
        CASES.test("promise 19: the last machine for the last of seven jobs", () -> {
            UnlikeUnion x = Cases.seven();
            CASES.same(x.assign(6, 2), 0);
            CASES.same("the plan", Due.planOf(x), "0100012");
        });
        CASES.test("promise 19: the last of seven jobs has another machine than the first one", () -> {
            UnlikeUnion x = Due.withPlan("0000001", 1, 1, 1, 1, 1, 1, 1, 1, 1, 1, 1, 1, 1, 1, 1, 1, 1, 1, 1, 1, 1);
            CASES.same(x.assign(6, 2), 1);
            CASES.same("the plan", Due.planOf(x), "0000002");
        });
        CASES.test("promise 19: a time set from 0", () -> {
            UnlikeUnion x = Due.withJobs(5, 0, 0);
            x.setTime(0, 1, 1);
            CASES.same(x.assign(0, 1), 0);
            CASES.same("its machine", x.machine(0), 1);
        });
    }

    private static void machines() {
        CASES.test("promise 20: the lowest machine at first, of seven jobs with times of 0", () -> CASES.same(
            Due.planOf(Due.withJobs(1, 1, 1, 0, 1, 1, 1, 0, 1, 1, 1, 0, 0, 0, 1, 0, 1, 0, 1, 0, 0)), "0100210"));
        CASES.test("promise 20: the lowest machine at first, though its time is 50",
            () -> CASES.same(Due.withJobs(50, 1, 1).machine(0), 0));
        CASES.test("promise 20: a lower machine gets a time behind that", () -> {
            UnlikeUnion x = Due.withJobs(0, 5, 5);
            x.setTime(0, 0, 1);
            CASES.same(x.machine(0), 1);
        });
        CASES.test("promise 20: the last of seven jobs", () -> CASES.same(Due.withPlan("0100012",
            4, 2, 4, 0, 2, 1, 5, 4, 1, 2, 3, 2, 5, 5, 4, 0, 2, 0, 3, 4, 4).machine(6), 2));
    }

    private static void noSuchMachine() {
        noLoad("the machine -1", -1);
        noLoad("the machine 3", 3);
        noLoad("the least int as machine", Integer.MIN_VALUE);
        noLoad("the greatest int as machine", Integer.MAX_VALUE);
        CASES.test("promise 21: the machine 3 without a job at all",
            () -> CASES.refused(IndexOutOfBoundsException.class, UnlikeUnion::new, x -> x.load(3)));
        CASES.test("promise 21: the machine -1 without a job at all",
            () -> CASES.refused(IndexOutOfBoundsException.class, UnlikeUnion::new, x -> x.load(-1)));
    }

    private static void noLoad(String name, int machine) {
        CASES.test("promise 21: " + name,
            () -> CASES.refused(IndexOutOfBoundsException.class, Cases::seven, x -> x.load(machine)));
    }

    private static void loads() {
        for (int at = 0; at < 3; at++) {
            int machine = at;
            CASES.test("promise 21: no job, the machine " + machine, () -> CASES.same(new UnlikeUnion().load(machine), 0));
            CASES.test("promise 21: all seven jobs of 50 on the machine " + machine, () -> {
                UnlikeUnion x = Cases.sevenAlike(50, 50, 50);
                for (int job = 0; job < 7; job++) {
                    x.assign(job, machine);
                }
                CASES.same(x.load(machine), 350);
                CASES.same("the next machine", x.load((machine + 1) % 3), 0);
            });
        }
        CASES.test("promise 21: no job any more", () -> {
            UnlikeUnion x = Due.withJobs(5, 6, 7);
            x.removeLast();
            CASES.same(x.load(0), 0);
        });
    }

    private static void lengths() {
        CASES.test("promise 22: no job", () -> CASES.same(new UnlikeUnion().length(), 0));
        CASES.test("promise 22: no job any more", () -> {
            UnlikeUnion x = Due.withJobs(5, 6, 7);
            x.removeLast();
            CASES.same(x.length(), 0);
        });
        CASES.test("promise 22: seven jobs of 50 on one machine", () -> CASES.same(Cases.sevenAlike(50, 50, 50).length(), 350));
        length("the load of the machine 0", "0012", 11, 5, 5, 5, 6, 6, 6, 10, 10, 10, 9, 9, 9);
        length("the load of the machine 1", "0112", 11, 10, 5, 5, 5, 5, 6, 6, 6, 10, 9, 9, 9);
        length("the load of the machine 2", "0122", 11, 10, 5, 5, 5, 9, 6, 6, 6, 5, 9, 9, 6);
    }

    private static void length(String name, String plan, int want, int... times) {
        CASES.test("promise 22: " + name, () -> CASES.same(Due.withPlan(plan, times).length(), want));
    }

    private static void noChange() {
        none("no job", "");
        none("one job that can be done on one machine", "", 0, 0, 50);
        none("one job on its best machine", "", 1, 1, 1);
        none("a move that is worse by 1", "", 5, 6, 0);
        none("a swap that is as good", "01", 5, 5, 0, 5, 5, 0);
        none("a move to a machine with the time 0", "", 50, 0, 0, 50, 0, 0);
        none("a swap, but the lower job has the time 0 there", "01", 9, 0, 0, 1, 5, 0);
        none("a swap, but the higher job has the time 0 there", "01", 9, 5, 0, 0, 5, 0);
        none("seven jobs that can be done on one machine", "",
            0, 50, 0, 0, 50, 0, 0, 50, 0, 0, 50, 0, 0, 50, 0, 0, 50, 0, 0, 50, 0);
        improved("the greatest load is less by 1", "0", 5, "1", 6, 5, 0);
        improved("a move to a machine with the time 1", "0", 1, "1", 2, 1, 0);
        improved("a swap to machines with the time 1", "01", 1, "10", 2, 1, 0, 1, 2, 0);
        improved("the greatest load less by 1, the second one more", "00", 5, "10", 1, 5, 0, 5, 0, 0);
        improved("the same greatest load, the second one less, the least more", "011", 9, "021",
            9, 0, 0, 0, 3, 3, 0, 3, 0);
        improved("the same greatest load, the second one less by 1", "01", 9, "02", 9, 0, 0, 0, 5, 4);
        improved("the same two greatest loads, the least less by 1", "012", 9, "021", 9, 0, 0, 0, 9, 5, 0, 9, 6);
        none("the same three loads on other machines", "01", 9, 0, 0, 0, 5, 5);
    }

    private static void none(String name, String plan, int... times) {
        CASES.test("promise 23: " + name, () -> {
            UnlikeUnion x = Due.withPlan(plan, times);
            String before = Due.stateOf(x);
            CASES.same(x.improve(), UnlikeUnion.NONE);
            CASES.same("the state", Due.stateOf(x), before);
        });
    }

    private static void improved(String name, String before, int answer, String then, int... times) {
        CASES.test("promise 23: " + name, () -> {
            UnlikeUnion x = Due.withPlan(before, times);
            CASES.same(x.improve(), answer);
            CASES.same("the plan", Due.planOf(x), then);
        });
    }

    private static void equalChanges() {
        improved("equally good moves: the lower job", "00", 5, "10", 5, 5, 0, 5, 5, 0);
        improved("equally good moves of a job: the lower machine", "00", 5, "10", 5, 5, 5, 5, 0, 0);
        improved("equally good moves of a job on the machine 1: the lower machine", "11", 5, "01", 5, 5, 5, 0, 5, 0);
        improved("equally good moves: the lower job before the lower machine", "00", 5, "20", 5, 0, 5, 5, 5, 0);
        improved("an equally good move and swap: the move, though the swap has a lower job", "001", 5, "011",
            5, 5, 0, 3, 3, 0, 1, 1, 0);
        improved("equally good swaps: the lower one of both jobs", "001", 10, "100", 9, 1, 0, 9, 1, 0, 1, 9, 0);
        improved("equally good swaps of a job: the lower other job", "011", 10, "101", 9, 1, 0, 1, 9, 0, 1, 9, 0);
    }

    private static void changesOfSeven() {
        improved("the last of seven jobs moves to the last machine", "", 6, "0000002",
            1, 0, 0, 1, 0, 0, 1, 0, 0, 1, 0, 0, 1, 0, 0, 1, 0, 0, 50, 0, 3);
        improved("the last two of seven jobs swap", "0000012", 5, "0000021",
            1, 0, 0, 1, 0, 0, 1, 0, 0, 1, 0, 0, 1, 0, 0, 0, 50, 1, 0, 1, 50);
        improved("the first and the last of seven jobs swap", "2000001", 5, "1000002",
            0, 1, 50, 1, 0, 0, 1, 0, 0, 1, 0, 0, 1, 0, 0, 1, 0, 0, 0, 50, 1);
        CASES.test("promise 23: seven jobs of 50 on one machine", () -> {
            UnlikeUnion x = Cases.sevenAlike(50, 50, 50);
            CASES.same(x.improve(), 300);
            CASES.same("the plan", Due.planOf(x), "1000000");
        });
    }

    private static void takeRounded() {
        taken("no job", 0, "", "");
        taken("one job that has that machine", 0, "0", "0", 5, 5, 5);
        taken("one job that has another machine", 1, "2", "0", 5, 5, 5);
        taken("all but the last of seven jobs have that machine", 1, "0122212", "0122210",
            4, 2, 4, 0, 2, 1, 5, 4, 1, 2, 3, 2, 5, 5, 4, 0, 2, 0, 3, 4, 4);
        CASES.test("promise 24: all seven jobs have another machine", () -> {
            UnlikeUnion x = Cases.sevenAlike(50, 0, 1);
            CASES.same(x.takeRounded(), 7);
            CASES.same("the plan", Due.planOf(x), "2222222");
            CASES.same("the length", x.length(), 7);
        });
        CASES.test("promise 24: taken again", () -> {
            UnlikeUnion x = Cases.seven();
            x.takeRounded();
            CASES.same(x.takeRounded(), 0);
            CASES.same("the plan", Due.planOf(x), "0122210");
        });
        CASES.test("promise 24: no job any more", () -> {
            UnlikeUnion x = Due.withPlan("2", 5, 5, 5);
            x.removeLast();
            CASES.same(x.takeRounded(), 0);
        });
        CASES.test("promise 24: a job that is removed is not counted", () -> {
            UnlikeUnion x = Due.withPlan("22", 5, 5, 5, 5, 5, 5);
            x.removeLast();
            CASES.same(x.takeRounded(), 1);
        });
    }

    private static void taken(String name, int changed, String before, String then, int... times) {
        CASES.test("promise 24: " + name, () -> {
            UnlikeUnion x = Due.withPlan(before, times);
            CASES.same(x.takeRounded(), changed);
            CASES.same("the plan", Due.planOf(x), then);
        });
    }
}
