import java.util.function.Function;

/** Promises 1 to 6, the boundary cases: a new object, no job, seven jobs, times of 0 and 50, refused calls. */
final class BoundaryJobsTest {
    private static final Cases CASES = new Cases("BoundaryJobsTest");
    private static final int[] WRONG_TIMES = {-1, 51, Integer.MIN_VALUE, Integer.MAX_VALUE};

    public static void main(String[] args) {
        newObject();
        lastCalls();
        addJob();
        addJobWithWrongTimes();
        addJobBehindTheSeventh();
        setTimeRefused();
        setTimeToZero();
        setTimeTaken();
        removeLast();
        jobs();
        time();
        CASES.close();
    }

    private static void newObject() {
        CASES.test("promise 1: NONE is -1", () -> CASES.same(UnlikeUnion.NONE, -1));
        CASES.test("promise 1: no job", () -> CASES.same(new UnlikeUnion().jobs(), 0));
        CASES.test("promise 1: three machines without a load", () -> {
            UnlikeUnion x = new UnlikeUnion();
            for (int machine = 0; machine < 3; machine++) {
                CASES.same("load(" + machine + ")", x.load(machine), 0);
            }
        });
        CASES.test("promise 1: no fourth machine",
            () -> CASES.refused(IndexOutOfBoundsException.class, UnlikeUnion::new, x -> x.load(3)));
        CASES.test("promise 1: all that it shows", () -> CASES.same(Due.stateOf(new UnlikeUnion()),
            "jobs 0 shortest 0 0 bound 0 least 0/1 rounded 0 1.0 length 0 load 0 load 0 load 0"));
    }

    /** An object is used for at most 512 calls, so that the 512th is the last to be answered. */
    private static void lastCalls() {
        lastCall("jobs", x -> x.jobs());
        lastCall("addJob", x -> Due.answerOf(() -> x.addJob(1, 1, 1)));
        lastCall("setTime", x -> x.setTime(0, 1, 50));
        lastCall("removeLast", x -> x.removeLast());
        lastCall("time", x -> x.time(6, 2));
        lastCall("shortest", x -> x.shortest());
        lastCall("shortestByTrying", x -> x.shortestByTrying());
        lastCall("shortestMachine", x -> x.shortestMachine(6));
        lastCall("bound", x -> x.bound());
        lastCall("numerator", x -> x.numerator(1, 2));
        lastCall("denominator", x -> x.denominator(1, 2));
        lastCall("isDivided", x -> x.isDivided(1));
        lastCall("leastNumerator", x -> x.leastNumerator());
        lastCall("leastDenominator", x -> x.leastDenominator());
        lastCall("roundedMachine", x -> x.roundedMachine(1));
        lastCall("roundedLength", x -> x.roundedLength());
        lastCall("excess", x -> x.excess());
        lastCall("assign", x -> x.assign(0, 2));
        lastCall("machine", x -> x.machine(5));
        lastCall("load", x -> x.load(1));
        lastCall("length", x -> x.length());
        lastCall("improve", x -> x.improve());
        lastCall("takeRounded", x -> x.takeRounded());
    }

    private static void lastCall(String call, Function<UnlikeUnion, Object> made) {
        CASES.test("promise 1: " + call + " as the 512th call", () -> {
            UnlikeUnion x = Cases.seven();
            // The time of the job 0 goes up and down, and is 4 again behind the last of 504 calls.
            for (int round = 0; round < 252; round++) {
                x.setTime(0, 0, round == 251 ? 4 : 1 + round % 50);
                x.excess();
            }
            CASES.same(made.apply(x), made.apply(Cases.seven()));
        });
    }

    private static void addJob() {
        CASES.test("promise 2: the first job is the job 0", () -> CASES.same(new UnlikeUnion().addJob(1, 1, 1), 0));
        CASES.test("promise 2: the seventh job is the job 6", () -> {
            UnlikeUnion x = Due.withJobs(1, 1, 1, 2, 2, 2, 3, 3, 3, 4, 4, 4, 5, 5, 5, 6, 6, 6);
            CASES.same(x.addJob(7, 8, 9), 6);
            CASES.same("its times", x.time(6, 0) + " " + x.time(6, 1) + " " + x.time(6, 2), "7 8 9");
        });
        for (int time : new int[] {1, 50}) {
            taken("promise 2: the time " + time + " on the machine 0 alone", time, 0, 0, 0);
            taken("promise 2: the time " + time + " on the machine 1 alone", 0, time, 0, 1);
            taken("promise 2: the time " + time + " on the machine 2 alone", 0, 0, time, 2);
            taken("promise 2: the time " + time + " on all machines", time, time, time, 0);
        }
        taken("promise 2: the time 0 on the machine 0", 0, 50, 1, 1);
        taken("promise 2: the time 0 on the machine 1", 50, 0, 1, 0);
        taken("promise 2: the time 0 on the machine 2", 50, 1, 0, 0);
        CASES.test("promise 2: the seventh job has the lowest machine where it can be done", () -> {
            UnlikeUnion x = Due.withPlan("222222", 1, 1, 1, 1, 1, 1, 1, 1, 1, 1, 1, 1, 1, 1, 1, 1, 1, 1);
            x.addJob(0, 9, 1);
            CASES.same(Due.planOf(x), "2222221");
        });
        CASES.test("promise 2: a removed job leaves no machine to the next", () -> {
            UnlikeUnion x = Due.withPlan("2", 5, 5, 5);
            x.removeLast();
            x.addJob(9, 5, 5);
            CASES.same(x.machine(0), 0);
        });
        CASES.test("promise 2: a removed job leaves no times to the next", () -> {
            UnlikeUnion x = Due.withJobs(5, 6, 7);
            x.removeLast();
            x.addJob(0, 0, 3);
            CASES.same(x.time(0, 0) + " " + x.time(0, 1) + " " + x.time(0, 2), "0 0 3");
        });
    }

    private static void taken(String name, int first, int second, int third, int machine) {
        CASES.test(name, () -> {
            UnlikeUnion x = new UnlikeUnion();
            CASES.same(x.addJob(first, second, third), 0);
            CASES.same("time(0, 0)", x.time(0, 0), first);
            CASES.same("time(0, 1)", x.time(0, 1), second);
            CASES.same("time(0, 2)", x.time(0, 2), third);
            CASES.same("machine(0)", x.machine(0), machine);
        });
    }

    private static void addJobWithWrongTimes() {
        for (int time : WRONG_TIMES) {
            addWrong("the time " + time + " on the machine 0", time, 1, 1);
            addWrong("the time " + time + " on the machine 1", 1, time, 1);
            addWrong("the time " + time + " on the machine 2", 1, 1, time);
            addWrong("the time " + time + " on the machine 0 alone", time, 0, 0);
            addWrong("the time " + time + " on the machine 1 alone", 0, time, 0);
            addWrong("the time " + time + " on the machine 2 alone", 0, 0, time);
        }
        addWrong("all times 0", 0, 0, 0);
        addWrong("wrong times that are right in the sum", -1, 51, 0);
        CASES.test("promise 2: all times 0 for the first job",
            () -> CASES.refused(IllegalArgumentException.class, UnlikeUnion::new, x -> x.addJob(0, 0, 0)));
    }

    private static void addWrong(String name, int first, int second, int third) {
        CASES.test("promise 2: " + name,
            () -> CASES.refused(IllegalArgumentException.class, Cases::two, x -> x.addJob(first, second, third)));
        CASES.test("promise 2: " + name + " comes before the seven jobs",
            () -> CASES.refused(IllegalArgumentException.class, Cases::seven, x -> x.addJob(first, second, third)));
    }

    private static void addJobBehindTheSeventh() {
        CASES.test("promise 2: an eighth job",
            () -> CASES.refused(IllegalStateException.class, Cases::seven, x -> x.addJob(1, 1, 1)));
        CASES.test("promise 2: an eighth job of the time 50",
            () -> CASES.refused(IllegalStateException.class, Cases::seven, x -> x.addJob(50, 50, 50)));
        CASES.test("promise 2: a seventh job again behind removeLast", () -> {
            UnlikeUnion x = Cases.seven();
            x.removeLast();
            CASES.same(x.addJob(0, 0, 9), 6);
            CASES.thrown(IllegalStateException.class, () -> x.addJob(1, 1, 1));
        });
    }

    private static void setTimeRefused() {
        CASES.noSuchPlace("promise 3: setTime", (x, job, machine) -> x.setTime(job, machine, 5));
        CASES.noSuchPlace("promise 3: setTime to 0", (x, job, machine) -> x.setTime(job, machine, 0));
        for (int time : WRONG_TIMES) {
            CASES.noSuchPlace("promise 3: that comes before the time " + time + ": setTime",
                (x, job, machine) -> x.setTime(job, machine, time));
            setTimeWrong("on its machine", 0, 0, time);
            setTimeWrong("on another machine", 1, 2, time);
        }
        CASES.test("promise 3: the time 51 for the last of seven jobs",
            () -> CASES.refused(IllegalArgumentException.class, Cases::seven, x -> x.setTime(6, 2, 51)));
        CASES.test("promise 3: the time 51 where it cannot be done",
            () -> CASES.refused(IllegalArgumentException.class, Cases::seven, x -> x.setTime(1, 0, 51)));
        CASES.test("promise 3: the time 0 for a removed job on its machine",
            () -> CASES.refused(IndexOutOfBoundsException.class, Cases::twoOfThree, x -> x.setTime(2, 0, 0)));
    }

    private static void setTimeWrong(String where, int job, int machine, int time) {
        CASES.test("promise 3: the time " + time + " " + where,
            () -> CASES.refused(IllegalArgumentException.class, Cases::two, x -> x.setTime(job, machine, time)));
    }

    private static void setTimeToZero() {
        zeroRefused("the time 0 on its machine 0", 0, "0", 5, 6, 7);
        zeroRefused("the time 0 on its machine 1", 1, "1", 5, 6, 7);
        zeroRefused("the time 0 on its machine 2", 2, "2", 5, 6, 7);
        zeroRefused("the time 0 on the lowest machine where it can be done", 1, "", 0, 6, 7);
        zeroRefused("the time 0 on the only machine where it can be done", 2, "", 0, 0, 7);
        zeroRefused("the time 0 on its machine that has the time 50", 0, "", 50, 1, 1);
        CASES.test("promise 3: the time 0 on its machine, for the last of seven jobs",
            () -> CASES.refused(IllegalStateException.class, Cases::seven, x -> x.setTime(6, 0, 0)));
        CASES.test("promise 3: the time 0 on its machine, where the job 0 has another one", () -> CASES.refused(
            IllegalStateException.class, () -> Due.withPlan("02", 5, 6, 7, 5, 6, 7), x -> x.setTime(1, 2, 0)));
        CASES.test("promise 3: the time 0 where the job 0 has its machine", () -> {
            UnlikeUnion x = Due.withPlan("02", 5, 6, 7, 8, 6, 7);
            CASES.same(x.setTime(1, 0, 0), 8);
            CASES.same("the time", x.time(1, 0), 0);
        });
        CASES.test("promise 3: the time 0 on another machine", () -> {
            UnlikeUnion x = Due.withPlan("2", 5, 6, 7);
            CASES.same("on 0", x.setTime(0, 0, 0), 5);
            CASES.same("on 1", x.setTime(0, 1, 0), 6);
            CASES.same("times", x.time(0, 0) + " " + x.time(0, 1) + " " + x.time(0, 2), "0 0 7");
            CASES.same("its machine", x.machine(0), 2);
        });
        CASES.test("promise 3: the time 0 on another job's machine", () -> {
            UnlikeUnion x = Due.withPlan("01", 5, 6, 7, 5, 6, 7);
            CASES.same(x.setTime(0, 1, 0), 6);
            CASES.same("the other job", x.time(1, 1), 6);
        });
        CASES.test("promise 3: the time 0 where it is 0", () -> {
            UnlikeUnion x = Due.withJobs(5, 0, 7);
            CASES.same(x.setTime(0, 1, 0), 0);
            CASES.same("the state", Due.stateOf(x), Due.stateOf(Due.withJobs(5, 0, 7)));
        });
        CASES.test("promise 3: the time 0 on its machine behind assign", () -> zeroBehind(x -> x.assign(0, 1)));
        CASES.test("promise 3: the time 0 on its machine behind improve", () -> zeroBehind(x -> x.improve()));
        CASES.test("promise 3: the time 0 on its machine behind takeRounded", () -> zeroBehind(x -> x.takeRounded()));
    }

    private static void zeroRefused(String name, int machine, String plan, int... times) {
        CASES.test("promise 3: " + name, () -> CASES.refused(IllegalStateException.class,
            () -> Due.withPlan(plan, times), x -> x.setTime(0, machine, 0)));
    }

    /** Each of the calls brings the job from the machine 0 to the machine 1. */
    private static void zeroBehind(Function<UnlikeUnion, Object> call) {
        UnlikeUnion x = Due.withJobs(5, 2, 9);
        call.apply(x);
        CASES.thrown(IllegalStateException.class, () -> x.setTime(0, 1, 0));
        CASES.same("its machine before", x.setTime(0, 0, 0), 5);
    }

    private static void setTimeTaken() {
        CASES.test("promise 3: the time 50", () -> setOnItsMachine(50));
        CASES.test("promise 3: the time 1", () -> setOnItsMachine(1));
        CASES.test("promise 3: the time that it has", () -> setOnItsMachine(5));
        CASES.test("promise 3: the time before is 50", () -> CASES.same(Due.withJobs(50, 1, 1).setTime(0, 0, 1), 50));
        CASES.test("promise 3: the time before is 0", () -> {
            UnlikeUnion x = Due.withJobs(0, 0, 9);
            CASES.same(x.setTime(0, 0, 50), 0);
            CASES.same("its machine", x.machine(0), 2);
            CASES.same("it can be done there", x.assign(0, 0), 2);
            CASES.same("the load there", x.load(0), 50);
        });
        CASES.test("promise 3: the last machine of the last of seven jobs", () -> {
            UnlikeUnion x = Cases.seven();
            CASES.same(x.setTime(6, 2, 50), 4);
            CASES.same("behind it", x.setTime(6, 2, 1), 50);
        });
        CASES.test("promise 3: results that were asked before follow", () -> {
            UnlikeUnion x = Due.withJobs(5, 6, 7);
            Due.stateOf(x);
            x.setTime(0, 0, 9);
            CASES.same(Due.stateOf(x), Due.stateOf(Due.withJobs(9, 6, 7)));
        });
    }

    private static void setOnItsMachine(int time) {
        UnlikeUnion x = Due.withJobs(5, 6, 7);
        CASES.same(x.setTime(0, 0, time), 5);
        CASES.same("the time", x.time(0, 0), time);
        CASES.same("the load", x.load(0), time);
    }

    private static void removeLast() {
        CASES.test("promise 4: no job", () -> CASES.same(new UnlikeUnion().removeLast(), UnlikeUnion.NONE));
        CASES.test("promise 4: no job, again and again", () -> {
            UnlikeUnion x = new UnlikeUnion();
            for (int round = 0; round < 9; round++) {
                CASES.same(x.removeLast(), UnlikeUnion.NONE);
            }
            CASES.same("the next job", x.addJob(1, 2, 3), 0);
        });
        CASES.test("promise 4: no job, and nothing changes", () -> {
            UnlikeUnion x = new UnlikeUnion();
            x.removeLast();
            CASES.same(Due.stateOf(x), Due.stateOf(new UnlikeUnion()));
        });
        CASES.test("promise 4: the only job", () -> {
            UnlikeUnion x = Due.withJobs(1, 2, 3);
            Due.stateOf(x);
            CASES.same(x.removeLast(), 0);
            CASES.same("the state", Due.stateOf(x), Due.stateOf(new UnlikeUnion()));
        });
        CASES.test("promise 4: all seven jobs, the last first", () -> {
            UnlikeUnion x = Cases.seven();
            for (int left = 6; left >= 0; left--) {
                CASES.same(x.removeLast(), left);
            }
            CASES.same("behind the last", x.removeLast(), UnlikeUnion.NONE);
        });
        CASES.test("promise 4: the job with the greatest number", () -> {
            UnlikeUnion x = Due.withPlan("12", 1, 2, 3, 4, 5, 6);
            Due.stateOf(x);
            x.removeLast();
            CASES.same(Due.stateOf(x), Due.stateOf(Due.withPlan("1", 1, 2, 3)));
        });
    }

    private static void jobs() {
        CASES.test("promise 5: no job", () -> CASES.same(new UnlikeUnion().jobs(), 0));
        CASES.test("promise 5: seven jobs", () -> CASES.same(Cases.seven().jobs(), 7));
        CASES.test("promise 5: a refused job is not counted", () -> {
            UnlikeUnion x = new UnlikeUnion();
            CASES.thrown(IllegalArgumentException.class, () -> x.addJob(0, 0, 0));
            CASES.same(x.jobs(), 0);
        });
        CASES.test("promise 5: an eighth job is not counted", () -> {
            UnlikeUnion x = Cases.seven();
            CASES.thrown(IllegalStateException.class, () -> x.addJob(1, 1, 1));
            CASES.same(x.jobs(), 7);
        });
        CASES.test("promise 5: no job behind removeLast of none", () -> {
            UnlikeUnion x = new UnlikeUnion();
            x.removeLast();
            CASES.same(x.jobs(), 0);
        });
        CASES.test("promise 5: no job any more", () -> {
            UnlikeUnion x = Due.withJobs(1, 2, 3);
            x.removeLast();
            CASES.same(x.jobs(), 0);
        });
    }

    private static void time() {
        CASES.noSuchPlace("promise 6: time", (x, job, machine) -> x.time(job, machine));
        CASES.test("promise 6: the time 0", () -> CASES.same(Due.withJobs(0, 50, 1).time(0, 0), 0));
        CASES.test("promise 6: the time 50", () -> CASES.same(Due.withJobs(0, 50, 1).time(0, 1), 50));
        CASES.test("promise 6: the time 1", () -> CASES.same(Due.withJobs(0, 50, 1).time(0, 2), 1));
        CASES.test("promise 6: each place of seven jobs", () -> {
            UnlikeUnion x = new UnlikeUnion();
            for (int job = 0; job < 7; job++) {
                x.addJob(3 * job, 3 * job + 1, 3 * job + 2);
            }
            for (int place = 0; place < 21; place++) {
                CASES.same("place " + place, x.time(place / 3, place % 3), place);
            }
        });
    }
}
