/** Promises 10 to 15, the boundary cases: no job, seven jobs, times of 0, 1 and 50, shares of 0 and 1, no such place. */
final class BoundaryDivisionTest {
    private static final Cases CASES = new Cases("BoundaryDivisionTest");
    private static final int[] THREE_SHARES = {4, 1, 0, 0, 4, 7, 5, 3, 5};

    public static void main(String[] args) {
        bounds();
        CASES.noSuchPlace("promise 11: numerator", (x, job, machine) -> x.numerator(job, machine));
        CASES.noSuchPlace("promise 12: denominator", (x, job, machine) -> x.denominator(job, machine));
        shares();
        orderOfShares();
        CASES.noSuchJob("promise 13: isDivided", (x, job) -> x.isDivided(job));
        divided();
        leastNumbers();
        CASES.close();
    }

    private static void bounds() {
        bound("no job", 0);
        bound("one job of the time 1", 1, 1, 1, 1);
        bound("one job of the time 50", 50, 50, 50, 50);
        bound("a time of 0 is no time", 50, 0, 0, 50);
        bound("the least number is whole", 8, 6, 6, 6, 6, 6, 6, 6, 6, 6, 6, 6, 6);
        // The least number is 151/3.
        bound("the least number is above a whole one by a third", 51, 50, 0, 0, 0, 50, 0, 0, 0, 50, 1, 1, 1);
        // The least number is 50/51.
        bound("the least number is just below a whole one", 1, 50, 1, 0);
        // With the bound 8 the job 0 may have shares on the machine 0 alone, which is needed for 9.
        bound("no share above 0 where the time is above the bound", 9, 8, 9, 9, 1, 0, 0);
        // The least number is 50/3, but a share needs a bound of its time.
        bound("a bound that the least time asks", 49, 50, 49, 50);
        CASES.test("promise 10: seven jobs of 50", () -> CASES.same(Cases.sevenAlike(50, 50, 50).bound(), 117));
        CASES.test("promise 10: seven jobs of 50 on one machine", () -> CASES.same(Cases.sevenAlike(0, 50, 0).bound(), 350));
        CASES.test("promise 10: seven jobs of 1", () -> CASES.same(Cases.sevenAlike(1, 1, 1).bound(), 3));
        CASES.test("promise 10: no job any more", () -> {
            UnlikeUnion x = Due.withJobs(5, 6, 7);
            CASES.same("with one", x.bound(), 5);
            x.removeLast();
            CASES.same(x.bound(), 0);
        });
        CASES.test("promise 10: a time set to 0, and then from 0", () -> {
            UnlikeUnion x = Due.withPlan("2", 5, 6, 7);
            x.setTime(0, 0, 0);
            CASES.same("to 0", x.bound(), 6);
            x.setTime(0, 0, 1);
            CASES.same("from 0", x.bound(), 1);
        });
    }

    private static void bound(String name, int want, int... times) {
        CASES.test("promise 10: " + name, () -> CASES.same(Due.withJobs(times).bound(), want));
    }

    /** A job's share on a machine, as the numerator and the denominator that are due. */
    private static void share(String name, int job, int machine, int over, int under, int... times) {
        CASES.test("promise 11: " + name, () -> CASES.same(Due.withJobs(times).numerator(job, machine), over));
        CASES.test("promise 12: " + name, () -> CASES.same(Due.withJobs(times).denominator(job, machine), under));
    }

    private static void shares() {
        share("the share 0 where the job cannot be done on the machine 0", 0, 0, 0, 1, 0, 5, 5);
        share("the share 0 where the job cannot be done on the machine 2", 0, 2, 0, 1, 5, 5, 0);
        share("the share 0 where the time is above the bound", 0, 0, 0, 1, 50, 1, 1);
        share("the share 0 where it might have one", 0, 1, 0, 1, 5, 5, 5);
        share("the share 0 of a divided job", 1, 2, 0, 1, 6, 6, 6, 6, 6, 6, 6, 6, 6, 6, 6, 6);
        share("the share 1 on the machine 0", 0, 0, 1, 1, 5, 5, 5);
        share("the share 1 on the only machine", 0, 2, 1, 1, 0, 0, 50);
        // On machines with a limit of 8 for jobs of 6 these are 2/6 and 4/6.
        share("a share in lowest terms", 1, 0, 1, 3, 6, 6, 6, 6, 6, 6, 6, 6, 6, 6, 6, 6);
        share("the rest in lowest terms", 1, 1, 2, 3, 6, 6, 6, 6, 6, 6, 6, 6, 6, 6, 6, 6);
        share("the first of three shares", 2, 0, 1, 5, THREE_SHARES);
        share("the second of three shares", 2, 1, 1, 3, THREE_SHARES);
        share("the third of three shares", 2, 2, 7, 15, THREE_SHARES);
        share("a great denominator", 0, 0, 1703, 114800,
            48, 7, 31, 49, 0, 50, 1, 50, 21, 14, 22, 30, 8, 49, 39, 0, 0, 49);
        share("a share where the time is the bound", 0, 0, 1, 1, 10, 1, 1, 0, 0, 10);
        share("no share where the time is one above the bound", 0, 0, 0, 1, 11, 1, 1, 0, 0, 10);
        CASES.test("promise 11: the last of seven jobs", () -> CASES.same(Cases.seven().numerator(6, 0), 2));
        CASES.test("promise 12: the last of seven jobs", () -> CASES.same(Cases.seven().denominator(6, 0), 3));
        CASES.test("promise 11: the last machine of the last of seven jobs",
            () -> CASES.same(Cases.sevenAlike(50, 50, 50).numerator(6, 2), 1));
        CASES.test("promise 12: the last machine of the last of seven jobs",
            () -> CASES.same(Cases.sevenAlike(50, 50, 50).denominator(6, 2), 1));
        CASES.test("promise 11: a share of a job that was removed is not left to the next", () -> {
            UnlikeUnion x = Due.withJobs(5, 6, 7);
            CASES.same("before", Due.sharesOf(x), "1 0 0");
            x.removeLast();
            x.addJob(0, 0, 9);
            CASES.same(Due.sharesOf(x), "0 0 1");
        });
        CASES.test("promise 12: a denominator of a job that was removed is not left to the next", () -> {
            UnlikeUnion x = Due.withJobs(6, 6, 6, 6, 6, 6, 6, 6, 6, 6, 6, 6);
            CASES.same("before", x.denominator(2, 1), 3);
            x.removeLast();
            CASES.same(x.denominator(2, 1), 1);
        });
    }

    /** Of several divisions the one with the greatest share of the job 0 on the machine 0, and so on. */
    private static void orderOfShares() {
        division("all of the job 0 on the machine 0, where its time is the greatest", "1 0 0, 0 0 1", 10, 1, 1, 0, 0, 10);
        division("not on the machine 0, then on the machine 1", "0 1 0", 0, 6, 6);
        division("the job 0 before the job 1", "1 0 0, 0 1 0", 6, 6, 6, 6, 6, 6);
        // With the bound 6 the others leave room for loads of 1 on the machines 0 and 1.
        division("the greatest shares of the job 0, though they are not 1", "1/4 1/4 1/2, 0 1 0, 1 0 0",
            4, 4, 6, 9, 5, 0, 5, 8, 0);
        division("the last of three jobs has what is left", "0 1 0, 1 0 0, 1/3 1/3 1/3", 0, 2, 0, 2, 2, 0, 3, 3, 3);
        CASES.test("promise 11: seven jobs of 50, one after the other", () -> CASES.same(
            Due.sharesOf(Cases.sevenAlike(50, 50, 50)),
            "1 0 0, 1 0 0, 17/50 33/50 0, 0 1 0, 0 17/25 8/25, 0 0 1, 0 0 1"));
        CASES.test("promise 11: seven jobs, three of them divided", () -> CASES.same(
            Due.sharesOf(Cases.seven()), "1 0 0, 0 2/9 7/9, 0 0 1, 0 0 1, 0 4/9 5/9, 0 1 0, 2/3 1/3 0"));
    }

    private static void division(String name, String want, int... times) {
        CASES.test("promise 11: " + name, () -> CASES.same(Due.sharesOf(Due.withJobs(times)), want));
    }

    private static void divided() {
        divided("a share of 1", false, 0, 5, 5, 5);
        divided("a share of 1 on the machine 2", false, 0, 9, 9, 5);
        divided("a job that can be done on one machine", false, 0, 0, 50, 0);
        divided("two shares", true, 1, 6, 6, 6, 6, 6, 6, 6, 6, 6, 6, 6, 6);
        divided("three shares", true, 2, THREE_SHARES);
        divided("a share just below 1", true, 0, 48, 7, 31, 49, 0, 50, 1, 50, 21, 14, 22, 30, 8, 49, 39, 0, 0, 49);
        CASES.test("promise 13: the last of seven jobs, divided", () -> CASES.same(Cases.seven().isDivided(6), true));
        CASES.test("promise 13: the last of seven jobs, not divided",
            () -> CASES.same(Cases.sevenAlike(50, 50, 50).isDivided(6), false));
    }

    private static void divided(String name, boolean want, int job, int... times) {
        CASES.test("promise 13: " + name, () -> CASES.same(Due.withJobs(times).isDivided(job), want));
    }

    private static void leastNumbers() {
        least("no job", 0, 1);
        least("one job of the time 1", 1, 3, 1, 1, 1);
        least("whatever the times", 50, 3, 50, 50, 50);
        least("a whole number in lowest terms", 4, 1, 6, 6, 6, 6, 6, 6);
        least("where a time is 0", 50, 1, 0, 0, 50);
        least("shares where the time is above the bound", 50, 51, 50, 1, 0);
        least("a load that one machine alone asks", 10, 1, 1, 1, 1, 10, 0, 0);
        CASES.test("promise 14: seven jobs of 50", () -> CASES.same(Cases.sevenAlike(50, 50, 50).leastNumerator(), 350));
        CASES.test("promise 15: seven jobs of 50", () -> CASES.same(Cases.sevenAlike(50, 50, 50).leastDenominator(), 3));
        CASES.test("promise 14: seven jobs of 50 on one machine",
            () -> CASES.same(Cases.sevenAlike(0, 50, 0).leastNumerator(), 350));
        CASES.test("promise 15: seven jobs of 50 on one machine",
            () -> CASES.same(Cases.sevenAlike(0, 50, 0).leastDenominator(), 1));
        CASES.test("promise 14: no job any more", () -> {
            UnlikeUnion x = Due.withJobs(5, 5, 5);
            CASES.same("with one", x.leastNumerator(), 5);
            x.removeLast();
            CASES.same(x.leastNumerator(), 0);
        });
        CASES.test("promise 15: no job any more", () -> {
            UnlikeUnion x = Due.withJobs(5, 5, 5);
            CASES.same("with one", x.leastDenominator(), 3);
            x.removeLast();
            CASES.same(x.leastDenominator(), 1);
        });
    }

    private static void least(String name, int over, int under, int... times) {
        CASES.test("promise 14: " + name, () -> CASES.same(Due.withJobs(times).leastNumerator(), over));
        CASES.test("promise 15: " + name, () -> CASES.same(Due.withJobs(times).leastDenominator(), under));
    }
}
