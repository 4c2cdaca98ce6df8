import java.math.BigInteger;
import java.util.ArrayList;
import java.util.Arrays;
import java.util.HashSet;
import java.util.List;
import java.util.Set;

/**
 * The document once more, by other ways than the program's. Whether loads can be kept is asked of prices: shares with
 * loads at most L exist just if for all prices y >= 0 the jobs, each at its cheapest, cost at most the sum of y * L;
 * and it is enough to ask the prices at which two of the lines y[i] * time[i] = y[k] * time[k] or y[i] = 0 meet.
 */
final class Model {
    int count;
    final int[][] time = new int[7][3];
    final int[] own = new int[7];

    // ---- exact fractions

    record Ratio(BigInteger over, BigInteger under) {
        static final Ratio ZERO = of(0, 1);
        static final Ratio ONE = of(1, 1);

        static Ratio of(long over, long under) {
            return of(BigInteger.valueOf(over), BigInteger.valueOf(under));
        }

        static Ratio of(BigInteger over, BigInteger under) {
            BigInteger divisor = over.gcd(under);
            divisor = under.signum() < 0 ? divisor.negate() : divisor;
            return new Ratio(over.divide(divisor), under.divide(divisor));
        }

        Ratio plus(Ratio other) {
            return of(over.multiply(other.under).add(other.over.multiply(under)), under.multiply(other.under));
        }

        Ratio times(long factor) {
            return of(over.multiply(BigInteger.valueOf(factor)), under);
        }

        Ratio minus(Ratio other) {
            return plus(other.times(-1));
        }

        Ratio by(long divisor) {
            return of(over, under.multiply(BigInteger.valueOf(divisor)));
        }

        boolean above(Ratio other) {
            return minus(other).over.signum() > 0;
        }

        int ceiling() {
            BigInteger[] parts = over.divideAndRemainder(under);
            return parts[0].intValueExact() + (parts[1].signum() > 0 ? 1 : 0);
        }
    }

    // ---- plans

    int loadOf(int[] plan, int machine) {
        int sum = 0;
        for (int job = 0; job < count; job++) {
            sum += plan[job] == machine ? time[job][machine] : 0;
        }
        return sum;
    }

    int lengthOf(int[] plan) {
        return Math.max(loadOf(plan, 0), Math.max(loadOf(plan, 1), loadOf(plan, 2)));
    }

    /** All plans, those with lower machines for the first jobs first. */
    List<int[]> allPlans() {
        List<int[]> plans = new ArrayList<>();
        int numbers = (int) Math.pow(3, count);
        for (int number = 0; number < numbers; number++) {
            int[] plan = new int[7];
            boolean can = true;
            int rest = number;
            for (int job = count - 1; job >= 0; job--) {
                plan[job] = rest % 3;
                rest /= 3;
                can &= time[job][plan[job]] > 0;
            }
            if (can) {
                plans.add(plan);
            }
        }
        return plans;
    }

    int[] shortestPlan() {
        int[] best = null;
        for (int[] plan : allPlans()) {
            if (best == null || lengthOf(plan) < lengthOf(best)) {
                best = plan;
            }
        }
        return best;
    }

    // ---- the division

    private boolean may(int job, int machine, int cap) {
        return time[job][machine] > 0 && time[job][machine] <= cap;
    }

    private List<long[]> prices(int cap) {
        List<long[]> lines = new ArrayList<>(List.of(new long[] {1, 0, 0}, new long[] {0, 1, 0}, new long[] {0, 0, 1}));
        for (int job = 0; job < count; job++) {
            for (int one = 0; one < 3; one++) {
                for (int other = one + 1; other < 3; other++) {
                    if (may(job, one, cap) && may(job, other, cap)) {
                        long[] line = new long[3];
                        line[one] = time[job][one];
                        line[other] = -time[job][other];
                        lines.add(line);
                    }
                }
            }
        }
        Set<String> met = new HashSet<>();
        List<long[]> prices = new ArrayList<>();
        for (long[] a : lines) {
            for (long[] b : lines) {
                long[] y = {a[1] * b[2] - a[2] * b[1], a[2] * b[0] - a[0] * b[2], a[0] * b[1] - a[1] * b[0]};
                if (y[0] >= 0 && y[1] >= 0 && y[2] >= 0 && y[0] + y[1] + y[2] > 0 && met.add(Arrays.toString(y))) {
                    prices.add(y);
                }
            }
        }
        return prices;
    }

    /** The cheapest cost of a whole job on the machines from one on; -1 if it may not be on any of them. */
    private long cheapest(long[] y, int job, int from, int cap) {
        long least = -1;
        for (int machine = from; machine < 3; machine++) {
            if (may(job, machine, cap) && (least < 0 || y[machine] * time[job][machine] < least)) {
                least = y[machine] * time[job][machine];
            }
        }
        return least;
    }

    /** The least number that some division with shares only up to the cap keeps; null if there is none. */
    Ratio leastFor(int cap) {
        Ratio least = Ratio.ZERO;
        for (long[] y : prices(cap)) {
            long cost = 0;
            for (int job = 0; job < count; job++) {
                long cheapest = cheapest(y, job, 0, cap);
                if (cheapest < 0) {
                    return null;
                }
                cost += cheapest;
            }
            Ratio asked = Ratio.of(cost, y[0] + y[1] + y[2]);
            least = asked.above(least) ? asked : least;
        }
        return least;
    }

    int bound() {
        for (int bound = leastFor(50).ceiling();; bound++) {
            Ratio least = leastFor(bound);
            if (least != null && !least.above(Ratio.of(bound, 1))) {
                return bound;
            }
        }
    }

    Ratio[][] division(int bound) {
        Ratio[][] share = new Ratio[count][3];
        List<long[]> prices = prices(bound);
        // What is left to pay at each price when the shares fixed so far are paid.
        Ratio[] left = new Ratio[prices.size()];
        for (int at = 0; at < left.length; at++) {
            long[] y = prices.get(at);
            long money = bound * (y[0] + y[1] + y[2]);
            for (int job = 0; job < count; job++) {
                money -= cheapest(y, job, 0, bound);
            }
            left[at] = Ratio.of(money, 1);
        }
        for (int job = 0; job < count; job++) {
            Ratio rest = Ratio.ONE;
            for (int machine = 0; machine < 3; machine++) {
                share[job][machine] = Ratio.ZERO;
                if (may(job, machine, bound)) {
                    Ratio most = greatestShare(prices, left, rest, job, machine, bound);
                    share[job][machine] = most;
                    pay(prices, left, rest, most, job, machine, bound);
                    rest = rest.minus(most);
                }
            }
        }
        return share;
    }

    private Ratio greatestShare(List<long[]> prices, Ratio[] left, Ratio rest, int job, int machine, int cap) {
        Ratio most = rest;
        for (int at = 0; at < left.length; at++) {
            long[] y = prices.get(at);
            long behind = cheapest(y, job, machine + 1, cap);
            if (behind < 0) {
                return rest;
            }
            // left counts the rest at its cheapest from this machine on.
            Ratio money = left[at].plus(rest.times(cheapest(y, job, machine, cap) - behind));
            long dearer = y[machine] * time[job][machine] - behind;
            if (dearer > 0 && most.above(money.by(dearer))) {
                most = money.by(dearer);
            }
        }
        return most;
    }

    private void pay(List<long[]> prices, Ratio[] left, Ratio rest, Ratio paid, int job, int machine, int cap) {
        for (int at = 0; at < left.length; at++) {
            long[] y = prices.get(at);
            long behind = Math.max(0, cheapest(y, job, machine + 1, cap));
            left[at] = left[at].plus(rest.times(cheapest(y, job, machine, cap)))
                .minus(paid.times(y[machine] * time[job][machine])).minus(rest.minus(paid).times(behind));
        }
    }

    static boolean isDivided(Ratio[] shares) {
        return !Arrays.asList(shares).contains(Ratio.ONE);
    }

    /** Of all plans that are as the document says, the one with the lowest machines for the divided jobs. */
    int[] roundedPlan(Ratio[][] share) {
        int[] best = null;
        for (int[] plan : allPlans()) {
            if (isRounded(plan, share) && (best == null || goesBefore(plan, best, share))) {
                best = plan;
            }
        }
        return best;
    }

    private boolean isRounded(int[] plan, Ratio[][] share) {
        boolean[] taken = new boolean[3];
        for (int job = 0; job < count; job++) {
            boolean divided = isDivided(share[job]);
            if (share[job][plan[job]].equals(Ratio.ZERO) || divided && taken[plan[job]]) {
                return false;
            }
            taken[plan[job]] |= divided;
        }
        return true;
    }

    private boolean goesBefore(int[] plan, int[] other, Ratio[][] share) {
        for (int job = 0; job < count; job++) {
            if (isDivided(share[job]) && plan[job] != other[job]) {
                return plan[job] < other[job];
            }
        }
        return false;
    }

    // ---- the own plan

    private int[] sortedLoads(int[] plan) {
        int[] loads = {-loadOf(plan, 0), -loadOf(plan, 1), -loadOf(plan, 2)};
        Arrays.sort(loads);
        return new int[] {-loads[0], -loads[1], -loads[2]};
    }

    boolean isBetter(int[] plan, int[] other) {
        return Arrays.compare(sortedLoads(plan), sortedLoads(other)) < 0;
    }

    int improve() {
        List<int[]> changed = new ArrayList<>();
        for (int job = 0; job < count; job++) {
            for (int machine = 0; machine < 3; machine++) {
                if (machine != own[job] && time[job][machine] > 0) {
                    int[] plan = own.clone();
                    plan[job] = machine;
                    changed.add(plan);
                }
            }
        }
        for (int job = 0; job < count; job++) {
            for (int other = job + 1; other < count; other++) {
                if (own[job] != own[other] && time[job][own[other]] > 0 && time[other][own[job]] > 0) {
                    int[] plan = own.clone();
                    plan[job] = own[other];
                    plan[other] = own[job];
                    changed.add(plan);
                }
            }
        }
        int[] best = own;
        for (int[] plan : changed) {
            best = isBetter(plan, best) ? plan : best;
        }
        if (best == own) {
            return -1;
        }
        System.arraycopy(best, 0, own, 0, 7);
        return lengthOf(own);
    }

    int takeRounded() {
        int[] plan = roundedPlan(division(bound()));
        int changed = 0;
        for (int job = 0; job < count; job++) {
            changed += own[job] != plan[job] ? 1 : 0;
            own[job] = plan[job];
        }
        return changed;
    }

    // ---- jobs

    int addJob(int first, int second, int third) {
        boolean outside = Math.min(first, Math.min(second, third)) < 0 || Math.max(first, Math.max(second, third)) > 50;
        if (outside || first + second + third == 0) {
            throw new IllegalArgumentException();
        }
        if (count == 7) {
            throw new IllegalStateException();
        }
        time[count] = new int[] {first, second, third};
        own[count] = first > 0 ? 0 : second > 0 ? 1 : 2;
        return count++;
    }

    int setTime(int job, int machine, int value) {
        check(job, machine);
        if (value < 0 || value > 50) {
            throw new IllegalArgumentException();
        }
        if (value == 0 && own[job] == machine) {
            throw new IllegalStateException();
        }
        int before = time[job][machine];
        time[job][machine] = value;
        return before;
    }

    int assign(int job, int machine) {
        check(job, machine);
        if (time[job][machine] == 0) {
            throw new IllegalStateException();
        }
        int before = own[job];
        own[job] = machine;
        return before;
    }

    int removeLast() {
        return count == 0 ? -1 : --count;
    }

    void check(int job, int machine) {
        if (job < 0 || job >= count || machine < 0 || machine > 2) {
            throw new IndexOutOfBoundsException();
        }
    }

    /** The same text as Due.stateOf. */
    String state() {
        int[] shortest = shortestPlan();
        int bound = bound();
        Ratio least = leastFor(50);
        Ratio[][] share = division(bound);
        int[] rounded = roundedPlan(share);
        float excess = count == 0 ? 1 : (float) lengthOf(rounded) / (float) lengthOf(shortest);
        StringBuilder text = new StringBuilder("jobs " + count + " shortest " + lengthOf(shortest) + " "
            + lengthOf(shortest) + " bound " + bound + " least " + least.over() + "/" + least.under() + " rounded "
            + lengthOf(rounded) + " " + excess + " length " + lengthOf(own));
        for (int machine = 0; machine < 3; machine++) {
            text.append(" load " + loadOf(own, machine));
        }
        for (int job = 0; job < count; job++) {
            text.append("\n job " + job + ": " + own[job] + " " + shortest[job] + " " + rounded[job] + " "
                + isDivided(share[job]));
            for (int machine = 0; machine < 3; machine++) {
                text.append(" " + time[job][machine] + " of " + share[job][machine].over() + "/"
                    + share[job][machine].under());
            }
        }
        return text.toString();
    }
}
