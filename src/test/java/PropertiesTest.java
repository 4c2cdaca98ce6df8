import java.util.Arrays;
import java.util.Random;

/**
 * What the document's own sentences say of any jobs, without another way to find the answers: shares that sum up to 1,
 * loads that keep the bound, a plan that no change makes better, and that nothing hangs on how jobs are numbered.
 */
final class PropertiesTest {
    private static final Due DUE = new Due("PropertiesTest");
    private static final int[] GREATEST = {1, 2, 4, 9, 16, 25, 50};
    private static final int ROUNDS = 1500;

    public static void main(String[] args) {
        Random random = new Random(20261120L);
        for (int round = 0; round < ROUNDS; round++) {
            int[] times = times(random, random.nextInt(8), GREATEST[round % GREATEST.length]);
            String jobs = " of the jobs " + Arrays.toString(times);
            shortestPlan(jobs, times);
            division(jobs, times);
            leastNumber(jobs, times);
            roundedPlan(jobs, times);
            chain(jobs, times);
            otherNumbers(jobs, times, random);
            longerTimes(jobs, times, random);
            oneJobLess(jobs, times);
            improving(jobs, times, random);
        }
        DUE.close();
    }

    private static int[] times(Random random, int jobs, int greatest) {
        int[] times = new int[3 * jobs];
        for (int job = 0; job < jobs; job++) {
            for (int machine = 0; machine < 3; machine++) {
                times[3 * job + machine] = random.nextInt(5) == 0 ? 0 : 1 + random.nextInt(greatest);
            }
            if (times[3 * job] + times[3 * job + 1] + times[3 * job + 2] == 0) {
                times[3 * job + random.nextInt(3)] = greatest;
            }
        }
        return times;
    }

    private static void holds(String what, boolean so) {
        DUE.same(what, so, true);
    }

    private static void shortestPlan(String jobs, int[] times) {
        UnlikeUnion x = Due.withJobs(times);
        DUE.same("promise 8: the same by trying" + jobs, x.shortestByTrying(), x.shortest());
        UnlikeUnion own = Due.withPlan(Due.shortestPlanOf(x), times);
        DUE.same("promise 9: the length with its machines" + jobs, own.length(), x.shortest());
    }

    private static void division(String jobs, int[] times) {
        UnlikeUnion x = Due.withJobs(times);
        Model.Ratio[] loads = {Model.Ratio.ZERO, Model.Ratio.ZERO, Model.Ratio.ZERO};
        for (int job = 0; job < x.jobs(); job++) {
            Model.Ratio sum = Model.Ratio.ZERO;
            boolean whole = false;
            for (int machine = 0; machine < 3; machine++) {
                int over = x.numerator(job, machine);
                int under = x.denominator(job, machine);
                int time = times[3 * job + machine];
                holds("promises 11 and 12: a fraction from 0 to 1" + jobs, over >= 0 && under >= 1 && over <= under);
                DUE.same("promises 11 and 12: lowest terms" + jobs, divisor(over, under), 1);
                holds("promise 11: no share where it cannot be" + jobs, over == 0 || time > 0 && time <= x.bound());
                Model.Ratio share = Model.Ratio.of(over, under);
                sum = sum.plus(share);
                loads[machine] = loads[machine].plus(share.times(time));
                whole |= over == under;
            }
            DUE.same("promise 11: the sum of the shares" + jobs, sum, Model.Ratio.ONE);
            DUE.same("promise 13: divided" + jobs, x.isDivided(job), !whole);
        }
        for (Model.Ratio load : loads) {
            holds("promise 10: no load above it" + jobs, !load.above(Model.Ratio.of(x.bound(), 1)));
        }
    }

    private static int divisor(int one, int other) {
        return other == 0 ? one : divisor(other, one % other);
    }

    private static Model.Ratio leastOf(UnlikeUnion x) {
        return Model.Ratio.of(x.leastNumerator(), x.leastDenominator());
    }

    private static void leastNumber(String jobs, int[] times) {
        UnlikeUnion x = Due.withJobs(times);
        int fastest = 0;
        for (int job = 0; job < x.jobs(); job++) {
            int least = 51;
            for (int machine = 0; machine < 3; machine++) {
                int time = times[3 * job + machine];
                least = time > 0 && time < least ? time : least;
            }
            fastest += least;
        }
        DUE.same("promises 14 and 15: lowest terms" + jobs, divisor(x.leastNumerator(), x.leastDenominator()), 1);
        holds("promise 14: three machines do no more than the fastest work" + jobs,
            !Model.Ratio.of(fastest, 3).above(leastOf(x)));
    }

    private static void roundedPlan(String jobs, int[] times) {
        UnlikeUnion x = Due.withJobs(times);
        boolean[] taken = new boolean[3];
        for (int job = 0; job < x.jobs(); job++) {
            int machine = x.roundedMachine(job);
            holds("promise 16: a share on the machine" + jobs, x.numerator(job, machine) > 0);
            if (x.isDivided(job)) {
                holds("promise 16: no two divided jobs on one machine" + jobs, !taken[machine]);
                taken[machine] = true;
            } else {
                DUE.same("promise 16: the share 1" + jobs, x.numerator(job, machine), x.denominator(job, machine));
            }
        }
        UnlikeUnion own = Due.withPlan(Due.roundedPlanOf(x), times);
        DUE.same("promise 17: the length with its machines" + jobs, own.length(), x.roundedLength());
        float excess = x.jobs() == 0 ? 1 : (float) x.roundedLength() / (float) x.shortest();
        DUE.same("promise 18: the one length by the other" + jobs, x.excess(), excess);
        String before = Due.planOf(x);
        int unlike = 0;
        for (int job = 0; job < x.jobs(); job++) {
            unlike += before.charAt(job) - '0' != x.roundedMachine(job) ? 1 : 0;
        }
        DUE.same("promise 24: other machines" + jobs, x.takeRounded(), unlike);
        DUE.same("promise 24: the own plan" + jobs, Due.planOf(x), Due.roundedPlanOf(x));
        DUE.same("promise 24: its length" + jobs, x.length(), x.roundedLength());
    }

    /** A plan is a division, too, so that no one of these numbers is above the next. */
    private static void chain(String jobs, int[] times) {
        UnlikeUnion x = Due.withJobs(times);
        holds("promises 10 and 14: the least number, the bound" + jobs, !leastOf(x).above(Model.Ratio.of(x.bound(), 1)));
        holds("promises 7 and 10: the bound, the shortest length" + jobs, x.bound() <= x.shortest());
        holds("promises 7 and 17: the shortest, the rounded length" + jobs, x.shortest() <= x.roundedLength());
        holds("promises 10 and 17: the rounded length, twice the bound" + jobs, x.roundedLength() <= 2 * x.bound());
        holds("promises 7 and 22: the shortest, the own length" + jobs, x.shortest() <= x.length());
    }

    private static String numbersOf(UnlikeUnion x) {
        return x.shortest() + " " + x.bound() + " " + x.leastNumerator() + "/" + x.leastDenominator();
    }

    /** Jobs and machines in another order have the same shortest length, bound and least number. */
    private static void otherNumbers(String jobs, int[] times, Random random) {
        int[] turned = new int[times.length];
        int[] mixed = times.clone();
        for (int at = 0; at < times.length; at++) {
            turned[at - at % 3 + (at + 1) % 3] = times[at];
        }
        for (int job = times.length / 3 - 1; job > 0; job--) {
            int other = random.nextInt(job + 1);
            for (int machine = 0; machine < 3; machine++) {
                int time = mixed[3 * job + machine];
                mixed[3 * job + machine] = mixed[3 * other + machine];
                mixed[3 * other + machine] = time;
            }
        }
        String numbers = numbersOf(Due.withJobs(times));
        DUE.same("promises 7, 10, 14 and 15: turned machines" + jobs, numbersOf(Due.withJobs(turned)), numbers);
        DUE.same("promises 7, 10, 14 and 15: mixed jobs" + jobs, numbersOf(Due.withJobs(mixed)), numbers);
    }

    private static void longerTimes(String jobs, int[] times, Random random) {
        if (times.length == 0) {
            return;
        }
        int greatest = Arrays.stream(times).max().getAsInt();
        int factor = 50 / greatest;
        UnlikeUnion x = Due.withJobs(times);
        UnlikeUnion all = Due.withJobs(Arrays.stream(times).map(time -> time * factor).toArray());
        DUE.same("promise 7: all times " + factor + " times as long" + jobs, all.shortest(), factor * x.shortest());
        DUE.same("promise 14: all times " + factor + " times as long" + jobs, leastOf(all), leastOf(x).times(factor));
        int at = random.nextInt(times.length);
        if (times[at] > 0 && times[at] < 50) {
            UnlikeUnion one = Due.withJobs(times);
            numbersOf(one);
            one.setTime(at / 3, at % 3, times[at] + 1);
            holds("promises 3 and 7: a longer time" + jobs, one.shortest() >= x.shortest());
            holds("promises 3 and 10: a longer time" + jobs, one.bound() >= x.bound());
            holds("promises 3 and 14: a longer time" + jobs, !leastOf(x).above(leastOf(one)));
        }
    }

    private static void oneJobLess(String jobs, int[] times) {
        UnlikeUnion x = Due.withJobs(times);
        UnlikeUnion less = Due.withJobs(times);
        numbersOf(less);
        less.removeLast();
        holds("promises 4 and 7: a job less" + jobs, less.shortest() <= x.shortest());
        holds("promises 4 and 10: a job less" + jobs, less.bound() <= x.bound());
        holds("promises 4 and 14: a job less" + jobs, !leastOf(less).above(leastOf(x)));
    }

    private static int[] sortedLoads(UnlikeUnion x) {
        int[] loads = {-x.load(0), -x.load(1), -x.load(2)};
        Arrays.sort(loads);
        return loads;
    }

    /** The loads bear the other sign, so that the greatest load stands first, and the better row is the greater one. */
    private static boolean isBetter(int[] one, int[] other) {
        return Arrays.compare(one, other) > 0;
    }

    private static void improving(String jobs, int[] times, Random random) {
        UnlikeUnion x = Due.withJobs(times);
        for (int job = 0; job < x.jobs(); job++) {
            int machine = random.nextInt(3);
            if (times[3 * job + machine] > 0) {
                x.assign(job, machine);
            }
        }
        // Few enough steps for 512 calls; most plans need less of them.
        for (int step = 0; step < 12; step++) {
            String before = Due.planOf(x);
            int[] loads = sortedLoads(x);
            int length = x.length();
            int answer = x.improve();
            DUE.same("promise 23: the loads behind " + before + jobs, Arrays.toString(sortedLoads(x)),
                Arrays.toString(bestLoads(before, times)));
            if (answer == UnlikeUnion.NONE) {
                DUE.same("promise 23: no change of " + before + jobs, Due.planOf(x), before);
                return;
            }
            DUE.same("promise 23: the length behind " + before + jobs, answer, x.length());
            holds("promise 23: better than " + before + jobs, isBetter(sortedLoads(x), loads));
            holds("promise 23: not longer than " + before + jobs, answer <= length);
        }
    }

    /** The best loads of a plan and of all that one change makes of it, each looked at on an object of its own. */
    private static int[] bestLoads(String plan, int[] times) {
        int[] best = sortedLoads(Due.withPlan(plan, times));
        for (int job = 0; job < plan.length(); job++) {
            for (int machine = 0; machine < 3; machine++) {
                best = better(best, withMachine(plan, job, (char) ('0' + machine)), times);
            }
            for (int other = 0; other < job; other++) {
                String once = withMachine(plan, job, plan.charAt(other));
                best = better(best, withMachine(once, other, plan.charAt(job)), times);
            }
        }
        return best;
    }

    private static String withMachine(String plan, int job, char machine) {
        return plan.substring(0, job) + machine + plan.substring(job + 1);
    }

    private static int[] better(int[] best, String plan, int[] times) {
        for (int job = 0; job < plan.length(); job++) {
            if (times[3 * job + plan.charAt(job) - '0'] == 0) {
                return best;
            }
        }
        int[] loads = sortedLoads(Due.withPlan(plan, times));
        return isBetter(loads, best) ? loads : best;
    }
}
