/** Promises 19 to 24: the own plan. A plan is told by its machines, one digit for each job. */
final class OwnPlanTest {
    private static final Due DUE = new Due("OwnPlanTest");

    public static void main(String[] args) {
        assign();
        loads();
        noChange("no jobs", "");
        noChange("one machine alone", "0", 5, 0, 0);
        noChange("changes that are as good", "01", 5, 5, 5, 5, 5, 5);
        noChange("not where it cannot be done", "01", 9, 9, 0, 0, 9, 0);
        noChange("no swap where the higher job cannot be done", "01", 9, 5, 0, 0, 5, 0);
        noChange("no swap where the lower job cannot be done", "01", 9, 0, 0, 1, 5, 0);
        improve("the lower job of a move", "00", 5, "10", 5, 5, 5, 5, 5, 5);
        improve("the lower machine of a move", "000", 10, "100", 5, 5, 5, 5, 5, 5, 5, 5, 5);
        improve("the best move, not the first", "00", 9, "02", 9, 9, 9, 8, 9, 1);
        improve("a swap", "01", 1, "10", 9, 1, 0, 1, 9, 0);
        improve("the lower job of a swap", "001", 10, "100", 9, 1, 0, 9, 1, 0, 1, 9, 0);
        improve("the lower other job of a swap", "011", 10, "101", 9, 1, 0, 1, 9, 0, 1, 9, 0);
        // The swap of the jobs 0 and 2 comes to loads of 5, 4 and 0, too.
        improve("a move before a swap", "001", 5, "011", 5, 5, 0, 3, 3, 0, 1, 1, 0);
        improve("the second greatest load counts", "01", 9, "02", 9, 0, 0, 0, 4, 1);
        improve("the least load counts", "012", 9, "021", 9, 0, 0, 0, 9, 4, 0, 9, 6);
        improveToTheEnd();
        takeRounded();
        DUE.close();
    }

    private static void assign() {
        UnlikeUnion x = Due.withJobs(0, 7, 3, 4, 0, 2);
        DUE.same("promise 20: at first", Due.planOf(x), "10");
        DUE.same("promise 19: from 1 to 2", x.assign(0, 2), 1);
        DUE.same("promise 19: from 2 to 2", x.assign(0, 2), 2);
        DUE.same("promise 19: the other one", x.assign(1, 2), 0);
        DUE.same("promise 20: then", Due.planOf(x), "22");
        DUE.same("promise 19: back", x.assign(0, 1), 2);
        DUE.same("promise 20: back", Due.planOf(x), "12");
    }

    private static void loads() {
        UnlikeUnion x = Due.withPlan("0212", 5, 6, 7, 1, 2, 3, 9, 8, 7, 50, 50, 50);
        DUE.same("promise 21: the machine 0", x.load(0), 5);
        DUE.same("promise 21: the machine 1", x.load(1), 8);
        DUE.same("promise 21: the machine 2", x.load(2), 53);
        DUE.same("promise 22: the greatest", x.length(), 53);
        x.setTime(1, 2, 10);
        DUE.same("promise 21: behind setTime", x.load(2), 60);
        x.removeLast();
        DUE.same("promise 21: behind removeLast", x.load(2), 10);
        DUE.same("promise 22: behind removeLast", x.length(), 10);
        x.assign(1, 0);
        DUE.same("promise 21: an empty machine", x.load(2), 0);
        DUE.same("promise 22: behind assign", x.length(), 8);
    }

    private static void noChange(String name, String plan, int... times) {
        improve(name, plan, UnlikeUnion.NONE, plan, times);
    }

    private static void improve(String name, String before, int answer, String then, int... times) {
        UnlikeUnion x = Due.withPlan(before, times);
        DUE.same("promise 23: " + name, x.improve(), answer);
        DUE.same("promise 23: " + name + ", the plan", Due.planOf(x), then);
    }

    private static void improveToTheEnd() {
        UnlikeUnion x = Due.withPlan("220", 9, 9, 20, 2, 50, 50, 50, 2, 50);
        DUE.same("promise 23: first", x.improve(), 50);
        DUE.same("promise 23: first, the plan", Due.planOf(x), "120");
        DUE.same("promise 23: second", x.improve(), 50);
        DUE.same("promise 23: third", x.improve(), 11);
        DUE.same("promise 23: at the end", x.improve(), UnlikeUnion.NONE);
        DUE.same("promise 22: at the end", x.length(), 11);
    }

    private static void takeRounded() {
        DUE.same("promise 24: no jobs", new UnlikeUnion().takeRounded(), 0);
        UnlikeUnion x = Due.withJobs(6, 6, 6, 6, 6, 6, 6, 6, 6, 6, 6, 6);
        DUE.same("promise 24: two of four", x.takeRounded(), 2);
        DUE.same("promise 24: the plan", Due.planOf(x), "0012");
        DUE.same("promise 24: again", x.takeRounded(), 0);
        DUE.same("promise 24: its length", x.length(), 12);
        x.setTime(0, 0, 50);
        x.assign(3, 1);
        DUE.same("promise 24: behind setTime", x.takeRounded(), 3);
        DUE.same("promise 24: behind setTime, the plan", Due.planOf(x), "1002");
        x.removeLast();
        DUE.same("promise 24: behind removeLast", x.jobs(), 3);
    }
}
