/** Promises 16 to 18: the rounded plan. */
final class RoundingTest {
    private static final Due DUE = new Due("RoundingTest");

    public static void main(String[] args) {
        rounding("no jobs", 0, 1.0f, "");
        rounding("one job", 6, 1.0f, "1", 9, 6, 6);
        rounding("two divided", 12, 1.0f, "0012", 6, 6, 6, 6, 6, 6, 6, 6, 6, 6, 6, 6);
        // The job 1 has the machine 0, so that the job 2 is left the machine 2, where the job 0 is.
        rounding("the second one's lowest is taken", 3, 1.5f, "202", 3, 0, 1, 2, 2, 2, 2, 0, 2);
        // With the machine 0 for the job 1 nothing would be left for the job 3.
        rounding("not the lowest, for a later one's sake", 6, 1.2f, "12200",
            5, 3, 1, 4, 0, 3, 0, 4, 1, 4, 4, 0, 2, 4, 3);
        rounding("no short decimal", 7, 1.1666666f, "122", 7, 5, 4, 0, 0, 3, 6, 2, 4);
        rounding("all on one machine", 350, 1.0f, "1111111", 0, 50, 0, 0, 50, 0, 0, 50, 0, 0, 50, 0, 0, 50, 0, 0, 50, 0, 0, 50, 0);
        changes();
        DUE.close();
    }

    private static void rounding(String name, int length, float excess, String machines, int... times) {
        UnlikeUnion x = Due.withJobs(times);
        DUE.same("promise 18: " + name, x.excess(), excess);
        DUE.same("promise 17: " + name, x.roundedLength(), length);
        DUE.same("promise 16: " + name, Due.roundedPlanOf(x), machines);
    }

    private static void changes() {
        UnlikeUnion x = Due.withJobs(6, 6, 6, 6, 6, 6);
        DUE.same("promise 16: two", Due.roundedPlanOf(x), "01");
        x.setTime(0, 0, 50);
        DUE.same("promise 16: behind setTime", Due.roundedPlanOf(x), "10");
        x.addJob(6, 0, 6);
        DUE.same("promise 16: behind addJob", Due.roundedPlanOf(x), "102");
        x.assign(0, 2);
        DUE.same("promise 16: an own plan changes nothing", Due.roundedPlanOf(x), "102");
        x.removeLast();
        x.removeLast();
        DUE.same("promise 17: behind removeLast", x.roundedLength(), 6);
    }
}
