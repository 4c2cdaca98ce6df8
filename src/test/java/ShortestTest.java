/** Promises 7 to 9: the shortest plan. */
final class ShortestTest {
    private static final Due DUE = new Due("ShortestTest");

    public static void main(String[] args) {
        plans("no jobs", 0, "");
        plans("one job, the lowest of equal machines", 6, "1", 9, 6, 6);
        plans("one job, on one machine", 50, "2", 0, 0, 50);
        plans("four alike", 12, "0011", 6, 6, 6, 6, 6, 6, 6, 6, 6, 6, 6, 6);
        plans("each on its best", 3, "120", 9, 1, 9, 9, 9, 2, 3, 9, 9);
        // Alone each is fastest on the machine 0; together that takes 6.
        plans("the best machine is full", 3, "001", 1, 5, 5, 2, 3, 9, 3, 3, 9);
        plans("the lowest for the first", 10, "002", 1, 1, 1, 9, 0, 0, 0, 0, 10);
        plans("the lowest for the last", 10, "201", 0, 0, 1, 1, 1, 1, 0, 10, 9);
        plans("seven of 50", 150, "0001112", 50, 50, 50, 50, 50, 50, 50, 50, 50, 50, 50, 50, 50, 50, 50, 50, 50, 50, 50, 50, 50);
        plans("all on one machine", 350, "1111111", 0, 50, 0, 0, 50, 0, 0, 50, 0, 0, 50, 0, 0, 50, 0, 0, 50, 0, 0, 50, 0);
        changes();
        DUE.close();
    }

    private static void plans(String name, int length, String machines, int... times) {
        UnlikeUnion x = Due.withJobs(times);
        DUE.same("promise 8: " + name, x.shortestByTrying(), length);
        DUE.same("promise 9: " + name, Due.shortestPlanOf(x), machines);
        DUE.same("promise 7: " + name, x.shortest(), length);
        DUE.same("promise 8: " + name + " again", x.shortestByTrying(), length);
    }

    private static void changes() {
        UnlikeUnion x = Due.withJobs(5, 5, 5, 5, 5, 5);
        DUE.same("promise 7: two", x.shortest(), 5);
        x.addJob(5, 0, 0);
        DUE.same("promise 9: the third has the machine 0", x.shortestMachine(0), 1);
        DUE.same("promise 9: and the second one the machine 2", x.shortestMachine(1), 2);
        x.assign(0, 2);
        DUE.same("promise 9: an own plan changes nothing", x.shortestMachine(0), 1);
        x.setTime(0, 1, 9);
        DUE.same("promise 9: behind setTime", x.shortestMachine(0), 2);
        DUE.same("promise 8: behind setTime", x.shortestByTrying(), 5);
        x.removeLast();
        DUE.same("promise 9: behind removeLast", x.shortestMachine(0), 0);
    }
}
