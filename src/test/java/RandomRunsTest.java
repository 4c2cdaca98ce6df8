import java.util.Random;

/** Runs of calls, right and wrong ones, on an object and on the model; behind many of them all that is shown is compared. */
final class RandomRunsTest {
    private static final int[] GREATEST = {1, 2, 3, 6, 12, 50};

    public static void main(String[] args) {
        Due due = new Due("RandomRunsTest");
        int runs = args.length > 0 ? Integer.parseInt(args[0]) : 4000;
        long seed = args.length > 1 ? Long.parseLong(args[1]) : 20261119L;
        Random random = new Random(seed);
        for (int run = 0; run < runs; run++) {
            one(due, random, run);
        }
        due.close();
    }

    private static void one(Due due, Random random, int run) {
        UnlikeUnion x = new UnlikeUnion();
        Model model = new Model();
        int greatest = GREATEST[random.nextInt(GREATEST.length)];
        int calls = 0;
        while (calls + 1 + Due.callsOfState(7) <= 512) {
            String call = call(due, random, x, model, greatest);
            calls++;
            // Not behind each call, so that calls also meet results that have not been asked for.
            if (random.nextInt(3) == 0) {
                due.same("run " + run + " at " + calls + " behind " + call + "\n" + "the state", Due.stateOf(x), model.state());
                calls += Due.callsOfState(model.count);
            }
        }
    }

    private static int time(Random random, int greatest) {
        int kind = random.nextInt(40);
        return kind == 0 ? -1 : kind == 1 ? 51 : kind < 8 ? 0 : 1 + random.nextInt(greatest);
    }

    private static int place(Random random, int count) {
        return random.nextInt(12) == 0 ? (random.nextBoolean() ? -1 : count) : random.nextInt(Math.max(1, count));
    }

    private static String call(Due due, Random random, UnlikeUnion x, Model model, int greatest) {
        int job = place(random, model.count);
        int machine = place(random, 3);
        int a = time(random, greatest);
        int b = time(random, greatest);
        int c = time(random, greatest);
        switch (random.nextInt(12)) {
            case 0: case 1: case 2: case 3:
                return both(due, "addJob(" + a + ", " + b + ", " + c + ")", () -> x.addJob(a, b, c), () -> model.addJob(a, b, c));
            case 4: case 5:
                return both(due, "setTime(" + job + ", " + machine + ", " + a + ")", () -> x.setTime(job, machine, a), () -> model.setTime(job, machine, a));
            case 6: case 7:
                return both(due, "assign(" + job + ", " + machine + ")", () -> x.assign(job, machine), () -> model.assign(job, machine));
            case 8: case 9:
                return both(due, "improve()", x::improve, model::improve);
            case 10:
                return both(due, "takeRounded()", x::takeRounded, model::takeRounded);
            default:
                return both(due, "removeLast()", x::removeLast, model::removeLast);
        }
    }

    private static String both(Due due, String name, Due.Call call, Due.Call wanted) {
        due.same(name, Due.answerOf(call), Due.answerOf(wanted));
        return name;
    }
}
