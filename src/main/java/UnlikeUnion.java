/** Jobs on three unlike machines: shortest plan, least bound of a division, rounded plan, and a plan of one's own. */
public final class UnlikeUnion {
    public static final int NONE = -1;

    private static final int MACHINES = 3;
    private static final int MOST_JOBS = 7;
    private static final int MOST_TIME = 50;
    private static final int SHARES = MOST_JOBS * MACHINES;

    private final Jobs list = new Jobs();
    private final OwnPlan own = new OwnPlan();
    private final PlanSearch search = new PlanSearch();
    private final Division division = new Division();
    private final Rounding rounding = new Rounding();
    // Both are worked out when first asked for, and kept until a time or the number of jobs changes.
    private boolean searchStands;
    private boolean divisionStands;

    public UnlikeUnion() {
    }

    // ---- jobs

    public int addJob(int first, int second, int third) throws IllegalArgumentException, IllegalStateException {
        if (!isTime(first) || !isTime(second) || !isTime(third)) {
            throw new IllegalArgumentException("a time is not 0 to 50");
        }
        if (first == 0 && second == 0 && third == 0) {
            throw new IllegalArgumentException("the job cannot be done on any machine");
        }
        int job = list.count;
        if (job < 0 || job >= MOST_JOBS) {
            throw new IllegalStateException("there are 7 jobs");
        }
        list.count = job + 1;
        list.times[job * MACHINES] = first;
        list.times[job * MACHINES + 1] = second;
        list.times[job * MACHINES + 2] = third;
        own.machineOf[job] = first > 0 ? 0 : second > 0 ? 1 : 2;
        forgetResults();
        return job;
    }

    public int setTime(int job, int machine, int time)
            throws IndexOutOfBoundsException, IllegalArgumentException, IllegalStateException {
        requireJob(job);
        requireMachine(machine);
        if (!isTime(time)) {
            throw new IllegalArgumentException("the time is not 0 to 50");
        }
        if (time == 0 && own.machineOf[job] == machine) {
            throw new IllegalStateException("the job has this machine in the own plan");
        }
        int before = list.timeOn(job, machine);
        list.times[job * MACHINES + machine] = time;
        forgetResults();
        return before;
    }

    public int removeLast() {
        if (list.count <= 0) {
            return NONE;
        }
        list.count--;
        forgetResults();
        return list.count;
    }

    public int jobs() {
        return list.count;
    }

    public int time(int job, int machine) throws IndexOutOfBoundsException {
        requireJob(job);
        requireMachine(machine);
        return list.timeOn(job, machine);
    }

    // ---- the shortest plan

    public int shortest() {
        refreshSearch();
        return search.bestLength;
    }

    public int shortestByTrying() {
        return search.tryAll(list);
    }

    public int shortestMachine(int job) throws IndexOutOfBoundsException {
        requireJob(job);
        refreshSearch();
        return search.best[job];
    }

    // ---- the bound and the division

    public int bound() {
        refreshDivision();
        return division.bound;
    }

    public int numerator(int job, int machine) throws IndexOutOfBoundsException {
        requireJob(job);
        requireMachine(machine);
        refreshDivision();
        return division.numerators[job * MACHINES + machine];
    }

    public int denominator(int job, int machine) throws IndexOutOfBoundsException {
        requireJob(job);
        requireMachine(machine);
        refreshDivision();
        return division.denominators[job * MACHINES + machine];
    }

    public boolean isDivided(int job) throws IndexOutOfBoundsException {
        requireJob(job);
        refreshDivision();
        return division.wholeMachine(job) == NONE;
    }

    public int leastNumerator() {
        refreshDivision();
        return division.leastNumerator;
    }

    public int leastDenominator() {
        refreshDivision();
        return division.leastDenominator;
    }

    // ---- the rounded plan

    public int roundedMachine(int job) throws IndexOutOfBoundsException {
        requireJob(job);
        refreshDivision();
        return rounding.machineOf[job];
    }

    public int roundedLength() {
        refreshDivision();
        return list.greatestLoad(rounding.machineOf);
    }

    public float excess() {
        refreshSearch();
        refreshDivision();
        if (search.bestLength == 0) {
            return 1;
        }
        return (float) list.greatestLoad(rounding.machineOf) / (float) search.bestLength;
    }

    // ---- the own plan

    public int assign(int job, int machine) throws IndexOutOfBoundsException, IllegalStateException {
        requireJob(job);
        requireMachine(machine);
        if (list.timeOn(job, machine) == 0) {
            throw new IllegalStateException("the job cannot be done there");
        }
        int before = own.machineOf[job];
        own.machineOf[job] = machine;
        return before;
    }

    public int machine(int job) throws IndexOutOfBoundsException {
        requireJob(job);
        return own.machineOf[job];
    }

    public int load(int machine) throws IndexOutOfBoundsException {
        requireMachine(machine);
        return list.loadOn(own.machineOf, machine);
    }

    public int length() {
        return list.greatestLoad(own.machineOf);
    }

    public int improve() {
        return own.makeBestChange(list) ? list.greatestLoad(own.machineOf) : NONE;
    }

    public int takeRounded() {
        refreshDivision();
        int changed = 0;
        for (int job = 0; job < list.count && job < MOST_JOBS; job++) {
            if (own.machineOf[job] != rounding.machineOf[job]) {
                own.machineOf[job] = rounding.machineOf[job];
                changed++;
            }
        }
        return changed;
    }

    private static boolean isTime(int time) {
        return time >= 0 && time <= MOST_TIME;
    }

    private void requireJob(int job) {
        if (job < 0 || job >= list.count || job >= MOST_JOBS) {
            throw new IndexOutOfBoundsException("there is no such job");
        }
    }

    private static void requireMachine(int machine) {
        if (machine < 0 || machine >= MACHINES) {
            throw new IndexOutOfBoundsException("there is no such machine");
        }
    }

    private void forgetResults() {
        searchStands = false;
        divisionStands = false;
    }

    private void refreshSearch() {
        if (!searchStands) {
            search.find(list);
            searchStands = true;
        }
    }

    private void refreshDivision() {
        if (!divisionStands) {
            division.make(list);
            rounding.make(list, division);
            divisionStands = true;
        }
    }

    /** The jobs with their times; a plan is a row of machines, one for each job. */
    private static final class Jobs {
        private final int[] times = new int[SHARES];
        private int count;

        /** Answers 0, as where a job cannot be done, for what is no job or no machine. */
        int timeOn(int job, int machine) {
            if (job < 0 || job >= count || job >= MOST_JOBS || machine < 0 || machine >= MACHINES) {
                return 0;
            }
            return times[job * MACHINES + machine];
        }

        int loadOn(int[] plan, int machine) {
            int sum = 0;
            for (int job = 0; job < count && job < plan.length; job++) {
                if (plan[job] == machine) {
                    sum += timeOn(job, machine);
                }
            }
            return sum;
        }

        int greatestLoad(int[] plan) {
            return Math.max(Math.max(loadOn(plan, 0), loadOn(plan, 1)), loadOn(plan, 2));
        }
    }

    /** The shortest plan, by a search in the order of the plans, so that of equal ones the first stays. */
    private static final class PlanSearch {
        // Above the length of every plan.
        private static final int NO_LENGTH = MOST_JOBS * MOST_TIME + 1;

        private final int[] loads = new int[MACHINES];
        private final int[] chosen = new int[MOST_JOBS];
        private final int[] best = new int[MOST_JOBS];
        private int bestLength;

        void find(Jobs list) {
            clearLoads();
            bestLength = NO_LENGTH;
            searchFrom(this, list, 0);
        }

        int tryAll(Jobs list) {
            clearLoads();
            return tryFrom(this, list, 0);
        }

        private static void searchFrom(PlanSearch search, Jobs list, int job) {
            int reached = search.greatest();
            if (reached >= search.bestLength) {
                return;
            }
            if (job >= list.count || job >= MOST_JOBS) {
                search.keep(reached);
                return;
            }
            for (int machine = 0; machine < MACHINES; machine++) {
                int time = list.timeOn(job, machine);
                if (time > 0) {
                    search.chosen[job] = machine;
                    search.loads[machine] += time;
                    searchFrom(search, list, job + 1);
                    search.loads[machine] -= time;
                }
            }
        }

        private static int tryFrom(PlanSearch search, Jobs list, int job) {
            if (job >= list.count || job >= MOST_JOBS) {
                return search.greatest();
            }
            int least = NO_LENGTH;
            for (int machine = 0; machine < MACHINES; machine++) {
                int time = list.timeOn(job, machine);
                if (time > 0) {
                    search.loads[machine] += time;
                    least = Math.min(least, tryFrom(search, list, job + 1));
                    search.loads[machine] -= time;
                }
            }
            return least;
        }

        private void clearLoads() {
            for (int machine = 0; machine < MACHINES; machine++) {
                loads[machine] = 0;
            }
        }

        private int greatest() {
            return Math.max(Math.max(loads[0], loads[1]), loads[2]);
        }

        private void keep(int reached) {
            bestLength = reached;
            for (int job = 0; job < MOST_JOBS; job++) {
                best[job] = chosen[job];
            }
        }
    }

    /** The bound, the shares of the division for it, and the least number, all in lowest terms. */
    private static final class Division {
        private final Tableau tableau = new Tableau();
        private final int[] numerators = new int[SHARES];
        private final int[] denominators = new int[SHARES];
        private int bound;
        private int leastNumerator;
        private int leastDenominator;

        void make(Jobs list) {
            findLeast(list);
            // A greater number can be kept whenever a lesser one can; below is always one that cannot.
            int below = -1;
            for (int step = 256; step > 0; step /= 2) {
                if (!canKeep(list, below + step)) {
                    below += step;
                }
            }
            bound = below + 1;
            if (canKeep(list, bound)) {
                findShares(list);
            }
        }

        /** With the limit 0, the excess above the limit is the greatest load itself. */
        private void findLeast(Jobs list) {
            tableau.start(list, 0, MOST_TIME);
            tableau.lowerExcess();
            long value = tableau.scaledValue(Tableau.EXCESS);
            long divisor = commonDivisor(value, tableau.scale);
            leastNumerator = divisor == 0 ? 0 : (int) (value / divisor);
            leastDenominator = divisor == 0 ? 1 : (int) (tableau.scale / divisor);
        }

        private boolean canKeep(Jobs list, int limit) {
            return tableau.start(list, limit, limit) && tableau.lowerExcess();
        }

        private void findShares(Jobs list) {
            int shares = Math.min(list.count * MACHINES, SHARES);
            for (int share = 0; share < shares; share++) {
                tableau.raise(share);
            }
            for (int share = 0; share < shares; share++) {
                long value = tableau.scaledValue(share);
                long divisor = commonDivisor(value, tableau.scale);
                numerators[share] = divisor == 0 ? 0 : (int) (value / divisor);
                denominators[share] = divisor == 0 ? 1 : (int) (tableau.scale / divisor);
            }
        }

        /** The machine on which a job's share is 1, NONE if it is divided. */
        int wholeMachine(int job) {
            for (int machine = 0; machine < MACHINES; machine++) {
                if (hasShare(job, machine) && denominators[job * MACHINES + machine] == 1) {
                    return machine;
                }
            }
            return NONE;
        }

        boolean hasShare(int job, int machine) {
            return job >= 0 && job < MOST_JOBS && machine >= 0 && machine < MACHINES
                    && numerators[job * MACHINES + machine] > 0;
        }

        private static long commonDivisor(long one, long other) {
            long greater = one;
            long lesser = other;
            // Euclid's steps on two longs are fewer than 100.
            for (int step = 0; step < 1000 && lesser != 0; step++) {
                long rest = greater % lesser;
                greater = lesser;
                lesser = rest;
            }
            return greater;
        }
    }

    /**
     * A simplex in whole numbers: each cell stands for itself divided by the scale, which is the last pivot.
     * The cells are then determinants of the first ones, below 10 to the 8, so that no product leaves a long.
     * The variables are the shares, what each load stays below limit and excess, and the excess itself,
     * by which the loads may stand above the limit.
     */
    private static final class Tableau {
        private static final int EXCESS = SHARES + MACHINES;
        private static final int VARIABLES = EXCESS + 1;
        private static final int VALUE = VARIABLES;
        private static final int MOST_ROWS = MACHINES + MOST_JOBS;
        private static final int MOST_STEPS = 1000000;

        private final long[][] cells = new long[MOST_ROWS][VARIABLES + 1];
        private final int[] basic = new int[MOST_ROWS];
        // The variables that are not allowed here and not in the basis stay 0.
        private final boolean[] allowed = new boolean[VARIABLES];
        private int rows;
        private long scale;

        /** Lays out a division whose shares stand only where the time is at most cap; false if a job has none. */
        boolean start(Jobs list, int limit, int cap) {
            clear(list.count);
            for (int machine = 0; machine < MACHINES; machine++) {
                int slack = SHARES + machine;
                cells[machine][slack] = 1;
                cells[machine][EXCESS] = -1;
                cells[machine][VALUE] = limit;
                basic[machine] = slack;
                allowed[slack] = true;
            }
            for (int job = 0; job < list.count && job < MOST_JOBS; job++) {
                if (!layJob(list, job, cap)) {
                    return false;
                }
            }
            admitExcess();
            return true;
        }

        private void clear(int jobCount) {
            rows = Math.min(MACHINES + jobCount, MOST_ROWS);
            scale = 1;
            for (int row = 0; row < MOST_ROWS; row++) {
                basic[row] = NONE;
                for (int column = 0; column <= VALUE; column++) {
                    cells[row][column] = 0;
                }
            }
            for (int variable = 0; variable < VARIABLES; variable++) {
                allowed[variable] = false;
            }
        }

        /** Starts with the whole job on the lowest machine that may have a share of it. */
        private boolean layJob(Jobs list, int job, int cap) {
            int row = MACHINES + job;
            if (row < 0 || row >= MOST_ROWS) {
                return false;
            }
            for (int machine = MACHINES - 1; machine >= 0; machine--) {
                int time = list.timeOn(job, machine);
                int share = job * MACHINES + machine;
                if (time > 0 && time <= cap && share >= 0 && share < SHARES) {
                    cells[row][share] = 1;
                    cells[machine][share] = time;
                    allowed[share] = true;
                    basic[row] = share;
                }
            }
            cells[row][VALUE] = 1;
            return basic[row] != NONE && clearBasic(row);
        }

        /** Takes a job row's basic share out of the load rows. */
        private boolean clearBasic(int row) {
            int share = basic[row];
            if (share < 0 || share >= SHARES) {
                return false;
            }
            for (int machine = 0; machine < MACHINES; machine++) {
                long time = cells[machine][share];
                for (int column = 0; column <= VALUE && time != 0; column++) {
                    cells[machine][column] -= time * cells[row][column];
                }
            }
            return true;
        }

        /** Where a load stands above the limit, the excess enters in the row of the greatest load. */
        private void admitExcess() {
            int lowest = 0;
            for (int machine = 1; machine < MACHINES; machine++) {
                if (cells[machine][VALUE] < cells[lowest][VALUE]) {
                    lowest = machine;
                }
            }
            if (cells[lowest][VALUE] >= 0) {
                return;
            }
            for (int column = 0; column <= VALUE; column++) {
                cells[lowest][column] = -cells[lowest][column];
                for (int machine = 0; machine < MACHINES; machine++) {
                    if (machine != lowest) {
                        cells[machine][column] += cells[lowest][column];
                    }
                }
            }
            basic[lowest] = EXCESS;
        }

        /** Brings the excess as low as it goes; tells whether that is 0. It is never allowed to come back. */
        boolean lowerExcess() {
            for (int step = 0; step < MOST_STEPS; step++) {
                int row = rowOf(EXCESS);
                if (row == NONE) {
                    return true;
                }
                int column = columnWithSign(row, 1);
                if (column == NONE || !enter(column)) {
                    return false;
                }
            }
            return false;
        }

        /** Brings a variable as high as it goes, and holds it there. */
        void raise(int variable) {
            if (variable < 0 || variable >= VARIABLES) {
                return;
            }
            if (rowOf(variable) == NONE && (!allowed[variable] || !enter(variable))) {
                return;
            }
            for (int step = 0; step < MOST_STEPS; step++) {
                int row = rowOf(variable);
                if (row == NONE) {
                    return;
                }
                int column = columnWithSign(row, -1);
                if (column == NONE) {
                    hold(row);
                    return;
                }
                if (!enter(column)) {
                    return;
                }
            }
        }

        /** What would lower the row's variable by entering stays 0 from now on. */
        private void hold(int row) {
            for (int variable = 0; variable < VARIABLES; variable++) {
                if (cells[row][variable] != 0 && basic[row] != variable) {
                    allowed[variable] = false;
                }
            }
        }

        long scaledValue(int variable) {
            int row = rowOf(variable);
            return row == NONE ? 0 : cells[row][VALUE];
        }

        private int rowOf(int variable) {
            for (int row = 0; row < rows; row++) {
                if (basic[row] == variable) {
                    return row;
                }
            }
            return NONE;
        }

        /**
         * Of several columns the highest, as of several rows that one may leave: with both choices in one order
         * no step comes back to a basis left before, and the excess, the highest of all, leaves as soon as it is 0.
         */
        private int columnWithSign(int row, int sign) {
            for (int variable = VARIABLES - 1; variable >= 0; variable--) {
                if (allowed[variable] && cells[row][variable] * sign > 0) {
                    return variable;
                }
            }
            return NONE;
        }

        private boolean enter(int column) {
            int leaving = leavingRow(column);
            if (leaving == NONE || scale == 0) {
                return false;
            }
            long pivot = cells[leaving][column];
            for (int row = 0; row < rows; row++) {
                long factor = cells[row][column];
                if (row != leaving && (factor != 0 || pivot != scale)) {
                    for (int cell = 0; cell <= VALUE; cell++) {
                        cells[row][cell] = (cells[row][cell] * pivot - factor * cells[leaving][cell]) / scale;
                    }
                }
            }
            scale = pivot;
            basic[leaving] = column;
            return true;
        }

        private int leavingRow(int column) {
            int leaving = NONE;
            for (int row = 0; row < rows; row++) {
                if (cells[row][column] > 0) {
                    if (leaving == NONE) {
                        leaving = row;
                        continue;
                    }
                    // Cross products, so that no fraction is rounded.
                    long ours = cells[row][VALUE] * cells[leaving][column];
                    long theirs = cells[leaving][VALUE] * cells[row][column];
                    if (ours < theirs || ours == theirs && basic[row] > basic[leaving]) {
                        leaving = row;
                    }
                }
            }
            return leaving;
        }
    }

    /** The rounded plan of a division. */
    private static final class Rounding {
        private final int[] machineOf = new int[MOST_JOBS];

        void make(Jobs list, Division division) {
            matchFrom(this, list, division, 0, 0);
        }

        /** The machines are tried from the lowest for the lowest job, so that the first match is the one due. */
        private static boolean matchFrom(Rounding plan, Jobs list, Division division, int job, int taken) {
            if (job >= list.count || job >= MOST_JOBS) {
                return true;
            }
            int whole = division.wholeMachine(job);
            if (whole != NONE) {
                plan.machineOf[job] = whole;
                return matchFrom(plan, list, division, job + 1, taken);
            }
            for (int machine = 0; machine < MACHINES; machine++) {
                int bit = 1 << machine;
                if (division.hasShare(job, machine) && (taken & bit) == 0) {
                    plan.machineOf[job] = machine;
                    if (matchFrom(plan, list, division, job + 1, taken | bit)) {
                        return true;
                    }
                }
            }
            return false;
        }
    }

    /** The own plan, and the best change of it that has been met so far. */
    private static final class OwnPlan {
        private final int[] machineOf = new int[MOST_JOBS];
        private int bestRank;
        private int bestJob;
        private int bestOther;
        private int bestMachine;

        /** The changes are met in the order in which equal ones go ahead, so that the first of them stays. */
        boolean makeBestChange(Jobs list) {
            bestRank = rank(list);
            bestJob = NONE;
            bestOther = NONE;
            bestMachine = NONE;
            for (int job = 0; job < list.count && job < MOST_JOBS; job++) {
                meetMoves(list, job);
            }
            for (int job = 0; job < list.count && job < MOST_JOBS; job++) {
                meetSwaps(list, job);
            }
            if (bestJob < 0 || bestJob >= MOST_JOBS) {
                return false;
            }
            if (bestOther >= 0 && bestOther < MOST_JOBS) {
                swap(bestJob, bestOther);
            } else {
                machineOf[bestJob] = bestMachine;
            }
            return true;
        }

        private void meetMoves(Jobs list, int job) {
            int before = machineOf[job];
            for (int machine = 0; machine < MACHINES; machine++) {
                if (machine != before && list.timeOn(job, machine) > 0) {
                    machineOf[job] = machine;
                    meet(rank(list), job, NONE, machine);
                }
            }
            machineOf[job] = before;
        }

        private void meetSwaps(Jobs list, int job) {
            for (int other = job + 1; other < list.count && other < MOST_JOBS; other++) {
                int ours = machineOf[job];
                int theirs = machineOf[other];
                if (ours != theirs && list.timeOn(job, theirs) > 0 && list.timeOn(other, ours) > 0) {
                    swap(job, other);
                    meet(rank(list), job, other, NONE);
                    swap(job, other);
                }
            }
        }

        private void meet(int reached, int job, int other, int machine) {
            if (reached < bestRank) {
                bestRank = reached;
                bestJob = job;
                bestOther = other;
                bestMachine = machine;
            }
        }

        private void swap(int job, int other) {
            if (job >= 0 && job < MOST_JOBS && other >= 0 && other < MOST_JOBS) {
                int ours = machineOf[job];
                machineOf[job] = machineOf[other];
                machineOf[other] = ours;
            }
        }

        /** The loads from the greatest to the least as one number, which is less for a better plan. */
        private int rank(Jobs list) {
            int first = list.loadOn(machineOf, 0);
            int second = list.loadOn(machineOf, 1);
            int third = list.loadOn(machineOf, 2);
            int greatest = Math.max(Math.max(first, second), third);
            int least = Math.min(Math.min(first, second), third);
            int middle = first + second + third - greatest - least;
            return (greatest * 1000 + middle) * 1000 + least;
        }
    }
}
