/** Promises 1 to 6: a new object, and its jobs with their times. */
final class JobsTest {
    private static final Due DUE = new Due("JobsTest");

    public static void main(String[] args) {
        newObject();
        addJob();
        setTime();
        removeLast();
        time();
        DUE.close();
    }

    private static void newObject() {
        UnlikeUnion x = new UnlikeUnion();
        DUE.same("promise 1: NONE", UnlikeUnion.NONE, -1);
        DUE.same("promise 1: the state", Due.stateOf(x), "jobs 0 shortest 0 0 bound 0 least 0/1 rounded 0 1.0 "
            + "length 0 load 0 load 0 load 0");
        x.addJob(1, 2, 3);
        DUE.same("promise 1: another object has no jobs", new UnlikeUnion().jobs(), 0);
    }

    private static void addJob() {
        UnlikeUnion x = new UnlikeUnion();
        DUE.same("promise 2: the first", x.addJob(1, 50, 0), 0);
        DUE.same("promise 2: the lowest machine", x.machine(0), 0);
        DUE.same("promise 2: the second", x.addJob(0, 7, 3), 1);
        DUE.same("promise 2: not on the machine 0", x.machine(1), 1);
        DUE.same("promise 2: the third", x.addJob(0, 0, 50), 2);
        DUE.same("promise 2: only on the machine 2", x.machine(2), 2);
        for (int job = 3; job < 7; job++) {
            DUE.same("promise 2: job " + job, x.addJob(4, 4, 4), job);
            DUE.same("promise 5: with job " + job, x.jobs(), job + 1);
        }
    }

    private static void setTime() {
        UnlikeUnion x = new UnlikeUnion();
        x.addJob(5, 6, 0);
        x.addJob(9, 9, 9);
        DUE.same("promise 3: before", x.setTime(0, 0, 50), 5);
        DUE.same("promise 3: from 0", x.setTime(0, 2, 1), 0);
        DUE.same("promise 3: to 0", x.setTime(0, 1, 0), 6);
        DUE.same("promise 3: again", x.setTime(0, 1, 0), 0);
        DUE.same("promise 3: the own plan stays", x.machine(0), 0);
        DUE.same("promise 3: its load does not", x.load(0), 59);
        DUE.same("promise 3: the shortest plan neither", x.shortest(), 9);
        DUE.same("promise 3: nor the bound", x.bound(), 9);
        DUE.same("promise 3: nor the least number", x.leastNumerator(), 10);
        DUE.same("promise 3: another job", x.time(1, 1), 9);
    }

    private static void removeLast() {
        UnlikeUnion x = new UnlikeUnion();
        DUE.same("promise 4: of none", x.removeLast(), -1);
        x.addJob(1, 2, 3);
        x.addJob(4, 5, 6);
        x.assign(1, 2);
        DUE.same("promise 4: of two", x.removeLast(), 1);
        DUE.same("promise 5: then", x.jobs(), 1);
        DUE.same("promise 4: no load stays", x.load(2), 0);
        DUE.thrown("promise 4: the job is gone", IndexOutOfBoundsException.class, () -> x.time(1, 0));
        DUE.same("promise 4: the shortest plan", x.shortest(), 1);
        DUE.same("promise 4: the bound", x.bound(), 1);
        DUE.same("promise 4: its number is given again", x.addJob(4, 5, 6), 1);
        DUE.same("promise 4: with the lowest machine", x.machine(1), 0);
        DUE.same("promise 4: of two again", x.removeLast(), 1);
        DUE.same("promise 4: of one", x.removeLast(), 0);
        DUE.same("promise 4: of none again", x.removeLast(), -1);
        DUE.same("promise 4: as new", Due.stateOf(x), Due.stateOf(new UnlikeUnion()));
    }

    private static void time() {
        UnlikeUnion x = new UnlikeUnion();
        x.addJob(1, 2, 0);
        x.addJob(0, 50, 6);
        DUE.same("promise 6: 0 0", x.time(0, 0), 1);
        DUE.same("promise 6: 0 1", x.time(0, 1), 2);
        DUE.same("promise 6: 0 2", x.time(0, 2), 0);
        DUE.same("promise 6: 1 1", x.time(1, 1), 50);
        DUE.same("promise 6: 1 2", x.time(1, 2), 6);
        x.setTime(1, 2, 8);
        DUE.same("promise 6: behind setTime", x.time(1, 2), 8);
    }
}
