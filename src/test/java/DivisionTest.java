/** Promises 10 to 15: the bound, the division and the least number; each division told by its shares. */
final class DivisionTest {
    private static final Due DUE = new Due("DivisionTest");

    public static void main(String[] args) {
        division("no jobs", 0, "0/1", "");
        division("one job", 6, "18/5", "0 1 0", 9, 6, 0);
        division("greatest share on the machine 0", 6, "2/1", "1 0 0", 6, 6, 6);
        // The machine 0 takes more of the job 0 than it needs, as the bound is 10 for the other one's sake.
        division("slow, but the machine 0", 10, "10/1", "1 0 0, 0 0 1", 10, 1, 1, 0, 0, 10);
        division("four alike", 8, "8/1", "1 0 0, 1/3 2/3 0, 0 2/3 1/3, 0 0 1", 6, 6, 6, 6, 6, 6, 6, 6, 6, 6, 6, 6);
        // The job 0 could be spread, but each part of it stands on a machine with a time of 9.
        division("a bound above the least number", 9, "13/3", "1 0 0, 0 0 1, 0 1 0",
            9, 9, 9, 2, 50, 9, 50, 2, 50);
        division("half and half", 2, "5/3", "0 0 1, 1/2 1/2 0, 1/2 0 1/2", 3, 0, 1, 2, 2, 2, 2, 0, 2);
        division("three divided", 4, "19/5", "0 2/5 3/5, 1/5 0 4/5, 0 0 1, 3/10 7/10 0, 1 0 0",
            5, 3, 1, 4, 0, 3, 0, 4, 1, 4, 4, 0, 2, 4, 3);
        division("seven of 50", 117, "350/3", "1 0 0, 1 0 0, 17/50 33/50 0, 0 1 0, 0 17/25 8/25, 0 0 1, 0 0 1",
            50, 50, 50, 50, 50, 50, 50, 50, 50, 50, 50, 50, 50, 50, 50, 50, 50, 50, 50, 50, 50);
        division("all on one machine", 350, "350/1", "0 0 1, 0 0 1, 0 0 1, 0 0 1, 0 0 1, 0 0 1, 0 0 1",
            0, 0, 50, 0, 0, 50, 0, 0, 50, 0, 0, 50, 0, 0, 50, 0, 0, 50, 0, 0, 50);
        division("great denominators", 17, "2867/184", "0 0 1, 133/222 0 89/222, 0 0 1, 0 91/148 57/148, "
            + "625/1332 707/1332 0, 0 1 0, 1 0 0", 20, 20, 4, 17, 22, 9, 21, 13, 4, 18, 15, 14, 6, 9, 18, 7, 3, 9, 4, 13, 21);
        // On the way to the least number the job 0 leaves the machine 0 and comes back to it.
        division("a share that comes back", 2, "15/8", "0 1 0, 1 0 0, 0 0 1", 3, 2, 0, 2, 1, 2, 3, 3, 2);
        stepsOfTheTableau();
        changes();
        DUE.close();
    }

    /** Small jobs, each of which failed for a broken step of the tableau that the other ones did not meet. */
    private static void stepsOfTheTableau() {
        division("no row leaves whose cell is below 0", 1, "1/1", "0 1 0, 1 0 0, 0 0 1", 1, 1, 0, 1, 0, 0, 1, 1, 1);
        division("the load of the machine 0 below the greatest one", 1, "4/5", "0 0 1, 1 0 0", 0, 2, 1, 1, 2, 1);
        division("the greatest load is not the first one", 2, "2/1", "0 1 0, 1 0 0", 0, 2, 0, 1, 2, 0);
        division("of equal rows the excess leaves", 1, "1/1", "1 0 0, 0 1 0, 0 0 1", 1, 0, 0, 0, 1, 1, 0, 1, 1);
        division("a factor of -1", 1, "3/4", "0 1 0, 1 0 0", 3, 1, 2, 1, 1, 1);
        division("a factor of -1 among three jobs", 2, "7/5", "1 0 0, 0 1 0, 0 0 1", 2, 0, 2, 1, 2, 2, 0, 1, 1);
    }

    private static void division(String name, int bound, String least, String shares, int... times) {
        UnlikeUnion x = Due.withJobs(times);
        DUE.same("promise 15: " + name, x.leastDenominator(), Integer.valueOf(least.split("/")[1]));
        DUE.same("promise 14: " + name, x.leastNumerator(), Integer.valueOf(least.split("/")[0]));
        DUE.same("promises 11 and 12: " + name, Due.sharesOf(x), shares);
        DUE.same("promise 10: " + name, x.bound(), bound);
        for (int job = 0; job < x.jobs(); job++) {
            DUE.same("promise 13: " + name + ", job " + job, x.isDivided(job), shares.split(", ")[job].contains("/"));
        }
    }

    private static void changes() {
        UnlikeUnion x = Due.withJobs(6, 6, 6, 6, 6, 6);
        DUE.same("promise 11: two", Due.sharesOf(x), "1 0 0, 0 1 0");
        x.setTime(0, 0, 7);
        DUE.same("promise 11: above the bound", Due.sharesOf(x), "0 1 0, 1 0 0");
        x.addJob(6, 0, 6);
        DUE.same("promise 11: a third", Due.sharesOf(x), "0 1 0, 1 0 0, 0 0 1");
        x.removeLast();
        x.removeLast();
        DUE.same("promise 11: one", Due.sharesOf(x), "0 1 0");
        DUE.same("promise 10: one", x.bound(), 6);
        x.assign(0, 2);
        DUE.same("promise 11: an own plan changes nothing", Due.sharesOf(x), "0 1 0");
    }
}
