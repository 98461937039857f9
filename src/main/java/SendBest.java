import java.util.Arrays;

/**
 * Sending of units: for all needs of several incidents at once the units whose arrival seconds,
 * weighted by rank, are least in all. The numbered promises stand in the document DOC.md.
 */
public final class SendBest {
    private static final int MOST_UNITS = 12;
    private static final int MOST_INCIDENTS = 6;
    private static final int MOST_NEEDS = 10;
    private static final int SKILLS = 16;
    private static final int TOP_RANK = 9;
    private static final int MOST_SECONDS = 99_999;
    private static final int MOST_SAVED = 1_000_000;
    private static final int NONE = -1;

    private int unitCount;
    private final int[] skillsOf = new int[MOST_UNITS];
    private final boolean[] isBroken = new boolean[MOST_UNITS];
    private final boolean[] stays = new boolean[MOST_UNITS];
    private final int[] needOf = new int[MOST_UNITS];
    private final int[][] secondsOf = new int[MOST_UNITS][MOST_INCIDENTS];

    private int incidentCount;
    private final int[] rankOf = new int[MOST_INCIDENTS];
    private final boolean[] isOpen = new boolean[MOST_INCIDENTS];

    private int needCount;
    private final int[] incidentOf = new int[MOST_NEEDS];
    private final int[] skillOf = new int[MOST_NEEDS];
    private final int[] unitOf = new int[MOST_NEEDS];

    private final int[] limitOf = new int[SKILLS];
    private int reserveUnits = 0;
    private int reserveRank = TOP_RANK + 1;

    private final Pairing pairing = new Pairing();

    public SendBest() {
        Arrays.fill(needOf, NONE);
        Arrays.fill(unitOf, NONE);
        Arrays.fill(limitOf, NONE);
        for (int unit = 0; unit < MOST_UNITS; unit++) {
            Arrays.fill(secondsOf[unit], NONE);
        }
    }

    public int unit(int skills) throws IndexOutOfBoundsException, UnsupportedOperationException {
        if (skills < 0 || skills >= 1 << SKILLS) {
            throw new IndexOutOfBoundsException("skills have bits 0 to 15");
        }
        if (unitCount >= MOST_UNITS) {
            throw new UnsupportedOperationException("no room for a unit");
        }
        skillsOf[unitCount] = skills;
        unitCount++;
        return unitCount - 1;
    }

    public int incident(int rank) throws IndexOutOfBoundsException, UnsupportedOperationException {
        checkRank(rank);
        if (incidentCount >= MOST_INCIDENTS) {
            throw new UnsupportedOperationException("no room for an incident");
        }
        rankOf[incidentCount] = rank;
        isOpen[incidentCount] = true;
        incidentCount++;
        return incidentCount - 1;
    }

    public void rank(int incident, int rank)
            throws IllegalArgumentException, IndexOutOfBoundsException, IllegalStateException {
        checkIncident(incident);
        checkRank(rank);
        checkOpen(incident);
        rankOf[incident] = rank;
    }

    public int need(int incident, int skill, int n)
            throws IllegalArgumentException, IndexOutOfBoundsException, IllegalStateException,
            UnsupportedOperationException {
        checkIncident(incident);
        checkSkill(skill);
        if (n < 0 || n > MOST_NEEDS) {
            throw new IndexOutOfBoundsException("so many needs are 0 to 10");
        }
        checkOpen(incident);
        if (needCount + n > MOST_NEEDS) {
            throw new UnsupportedOperationException("no room for the needs");
        }
        for (int more = 0; more < n; more++) {
            incidentOf[needCount] = incident;
            skillOf[needCount] = skill;
            needCount++;
        }
        return needCount;
    }

    public void seconds(int unit, int incident, int s)
            throws IllegalArgumentException, IndexOutOfBoundsException {
        checkUnit(unit);
        checkIncident(incident);
        checkSeconds(s);
        secondsOf[unit][incident] = s;
    }

    public void limit(int skill, int s) throws IllegalArgumentException, IndexOutOfBoundsException {
        checkSkill(skill);
        checkSeconds(s);
        limitOf[skill] = s;
    }

    public void reserve(int units, int rank) throws IndexOutOfBoundsException {
        if (units < 0 || units > MOST_UNITS) {
            throw new IndexOutOfBoundsException("a reserve has 0 to 12 units");
        }
        if (rank < 1 || rank > TOP_RANK + 1) {
            throw new IndexOutOfBoundsException("a reserve's rank is 1 to 10");
        }
        reserveUnits = units;
        reserveRank = rank;
    }

    public void broken(int unit, boolean on) throws IllegalArgumentException, IllegalStateException {
        checkUnit(unit);
        if (isBroken[unit] == on) {
            throw new IllegalStateException("the unit is so");
        }
        isBroken[unit] = on;
        if (on) {
            free(unit);
        }
    }

    public int send(int saved) throws IndexOutOfBoundsException {
        if (saved < 0 || saved > MOST_SAVED) {
            throw new IndexOutOfBoundsException("saved seconds are 0 to 1000000");
        }
        layOutNeeds();
        int spare = spareUnits();
        pairing.findBest(spare);
        if (!presentStays(spare, Math.max(saved, 1))) {
            takeBest();
        }
        return countFilled();
    }

    public void stay(int unit, boolean on) throws IllegalArgumentException, IllegalStateException {
        checkUnit(unit);
        checkSent(unit);
        if (stays[unit] == on) {
            throw new IllegalStateException("the unit is so");
        }
        stays[unit] = on;
    }

    public void recall(int unit) throws IllegalArgumentException, IllegalStateException {
        checkUnit(unit);
        checkSent(unit);
        free(unit);
    }

    public void close(int incident) throws IllegalArgumentException, IllegalStateException {
        checkIncident(incident);
        checkOpen(incident);
        isOpen[incident] = false;
        for (int need = 0; need < needCount; need++) {
            if (incidentOf[need] == incident && unitOf[need] != NONE) {
                free(unitOf[need]);
            }
        }
    }

    public int needAt(int need, int what) throws IllegalArgumentException {
        checkNeed(need);
        switch (what) {
            case 0:
                return incidentOf[need];
            case 1:
                return skillOf[need];
            case 2:
                return unitOf[need];
            case 3:
                return isOpenNeed(need) ? 1 : 0;
            default:
                throw new IllegalArgumentException("of a need 0 to 3 can be asked");
        }
    }

    public int fills(int unit) throws IllegalArgumentException {
        checkUnit(unit);
        return needOf[unit];
    }

    public int sum(int what) throws IllegalArgumentException {
        if (what != 0 && what != 1) {
            throw new IllegalArgumentException("there are the sums 0 and 1");
        }
        int total = 0;
        for (int need = 0; need < needCount; need++) {
            if (isOpenNeed(need)) {
                total += what == 0 ? ranksLacking(need) : weightedSeconds(need);
            }
        }
        return total;
    }

    public int alternative(int need) throws IllegalArgumentException, IllegalStateException {
        checkNeed(need);
        checkOpen(incidentOf[need]);
        int nearest = NONE;
        for (int unit = 0; unit < unitCount; unit++) {
            if (needOf[unit] == NONE && canFill(unit, need)
                    && (nearest == NONE || secondsTo(unit, need) < secondsTo(nearest, need))) {
                nearest = unit;
            }
        }
        return nearest;
    }

    public int never(int i) throws IndexOutOfBoundsException {
        if (i < 0) {
            throw new IndexOutOfBoundsException("needs are counted from 0 on");
        }
        int before = 0;
        for (int need = 0; need < needCount; need++) {
            if (isOpenNeed(need) && !anyCanFill(need)) {
                if (before == i) {
                    return need;
                }
                before++;
            }
        }
        return NONE;
    }

    private void checkUnit(int unit) {
        if (unit < 0 || unit >= unitCount) {
            throw new IllegalArgumentException("no such unit");
        }
    }

    private void checkIncident(int incident) {
        if (incident < 0 || incident >= incidentCount) {
            throw new IllegalArgumentException("no such incident");
        }
    }

    private void checkNeed(int need) {
        if (need < 0 || need >= needCount) {
            throw new IllegalArgumentException("no such need");
        }
    }

    private static void checkSkill(int skill) {
        if (skill < 0 || skill >= SKILLS) {
            throw new IllegalArgumentException("no such skill");
        }
    }

    private static void checkRank(int rank) {
        if (rank < 1 || rank > TOP_RANK) {
            throw new IndexOutOfBoundsException("a rank is 1 to 9");
        }
    }

    private static void checkSeconds(int s) {
        if (s < NONE || s > MOST_SECONDS) {
            throw new IndexOutOfBoundsException("seconds are 0 to 99999, or -1 for none");
        }
    }

    private void checkOpen(int incident) {
        if (!isOpen[incident]) {
            throw new IllegalStateException("the incident is closed");
        }
    }

    private void checkSent(int unit) {
        if (needOf[unit] == NONE) {
            throw new IllegalStateException("the unit fills no need");
        }
    }

    private boolean isOpenNeed(int need) {
        return isOpen[incidentOf[need]];
    }

    private int rankOfNeed(int need) {
        return rankOf[incidentOf[need]];
    }

    private int secondsTo(int unit, int need) {
        return secondsOf[unit][incidentOf[need]];
    }

    private boolean canFill(int unit, int need) {
        int skill = skillOf[need];
        if (isBroken[unit] || (skillsOf[unit] >> skill & 1) == 0) {
            return false;
        }
        int s = secondsTo(unit, need);
        return s != NONE && (limitOf[skill] == NONE || s <= limitOf[skill]);
    }

    private boolean anyCanFill(int need) {
        for (int unit = 0; unit < unitCount; unit++) {
            if (canFill(unit, need)) {
                return true;
            }
        }
        return false;
    }

    private boolean isFixed(int unit) {
        return stays[unit] && needOf[unit] != NONE && canFill(unit, needOf[unit]);
    }

    private boolean hasFixedUnit(int need) {
        return unitOf[need] != NONE && isFixed(unitOf[need]);
    }

    private int ranksLacking(int need) {
        return unitOf[need] == NONE ? rankOfNeed(need) : 0;
    }

    private int weightedSeconds(int need) {
        // a unit may have lost its seconds (-1) since it was sent
        return unitOf[need] == NONE ? 0 : rankOfNeed(need) * Math.max(secondsTo(unitOf[need], need), 0);
    }

    private int countFilled() {
        int filled = 0;
        for (int need = 0; need < needCount; need++) {
            // a closed incident's needs have no units
            if (unitOf[need] != NONE) {
                filled++;
            }
        }
        return filled;
    }

    /** Being told to stay is about the need that the unit fills, so it ends with that. */
    private void free(int unit) {
        if (needOf[unit] != NONE) {
            unitOf[needOf[unit]] = NONE;
        }
        needOf[unit] = NONE;
        stays[unit] = false;
    }

    /** The needs that a plan is about, in the document's order: those that the reserve binds come last. */
    private void layOutNeeds() {
        pairing.clear();
        addNeeds(true);
        pairing.endUnbound();
        addNeeds(false);
    }

    private void addNeeds(boolean unbound) {
        for (int need = 0; need < needCount; need++) {
            if (isOpenNeed(need) && !hasFixedUnit(need) && (rankOfNeed(need) >= reserveRank) == unbound) {
                addNeed(need);
            }
        }
    }

    private void addNeed(int need) {
        int row = pairing.addRow(need);
        for (int unit = 0; unit < unitCount; unit++) {
            if (!isFixed(unit) && canFill(unit, need)) {
                pairing.allow(row, unit, rankOfNeed(need), secondsTo(unit, need));
            }
        }
    }

    /** How many units a plan may have when it gives one to a need that the reserve binds. */
    private int spareUnits() {
        int spare = -reserveUnits;
        for (int unit = 0; unit < unitCount; unit++) {
            if (!isBroken[unit] && !isFixed(unit)) {
                spare++;
            }
        }
        return spare;
    }

    private boolean presentStays(int spare, int saved) {
        for (int row = 0; row < pairing.rows(); row++) {
            pairing.setPresent(row, unitOf[pairing.needOfRow(row)]);
        }
        return pairing.presentIsPlan(spare) && pairing.savedByBest() < saved;
    }

    private void takeBest() {
        for (int row = 0; row < pairing.rows(); row++) {
            int before = unitOf[pairing.needOfRow(row)];
            if (before != NONE) {
                free(before);
            }
        }
        for (int row = 0; row < pairing.rows(); row++) {
            int unit = pairing.bestUnit(row);
            if (unit != NONE) {
                unitOf[pairing.needOfRow(row)] = unit;
                needOf[unit] = pairing.needOfRow(row);
            }
        }
    }

    /**
     * Rows (the needs of a plan, in the plan's order) and the units that they get. The cheapest pairs
     * of each number come from those of one less by the cheapest path that gives one more row a unit.
     */
    private static final class Pairing {
        /**
         * What a row without a unit costs more, for each rank. It is above the largest sum of weighted
         * seconds (10 needs, 9 times 99,999) and the largest saving together, so that no sum of seconds
         * weighs up one rank, and a plan that leaves fewer ranks always saves enough.
         */
        private static final long LACKING = 100_000_000L;

        private int rowCount;
        private int unboundCount;
        private final int[] need = new int[MOST_NEEDS];

        /** Below 0 for a unit that can fill the row's need, and 0 for one that can't. */
        private final long[][] cost = new long[MOST_NEEDS][MOST_UNITS];
        /** Among pairings of one cost, the first rows' lowest units make the least sum of these. */
        private final long[][] tie = new long[MOST_NEEDS][MOST_UNITS];

        private final int[] unitAt = new int[MOST_NEEDS];
        private final int[] rowAt = new int[MOST_UNITS];
        private final int[] other = new int[MOST_NEEDS];

        private final boolean[] isFresh = new boolean[MOST_NEEDS];
        private final long[] rowCost = new long[MOST_NEEDS];
        private final long[] rowTie = new long[MOST_NEEDS];
        private final int[] cameFrom = new int[MOST_UNITS];
        private final long[] unitCost = new long[MOST_UNITS];
        private final long[] unitTie = new long[MOST_UNITS];

        Pairing() {
            long place = 1;
            for (int row = MOST_NEEDS - 1; row >= 0; row--) {
                for (int unit = 0; unit < MOST_UNITS; unit++) {
                    tie[row][unit] = (unit - MOST_UNITS) * place;
                }
                place *= MOST_UNITS + 1;
            }
        }

        void clear() {
            rowCount = 0;
            unboundCount = 0;
            for (int row = 0; row < MOST_NEEDS; row++) {
                Arrays.fill(cost[row], 0);
            }
        }

        int addRow(int ofNeed) {
            need[rowCount] = ofNeed;
            rowCount++;
            return rowCount - 1;
        }

        /** The rows after those that there are now are bound by the reserve. */
        void endUnbound() {
            unboundCount = rowCount;
        }

        void allow(int row, int unit, int weight, int s) {
            cost[row][unit] = weight * (s - LACKING);
        }

        int rows() {
            return rowCount;
        }

        int needOfRow(int row) {
            return need[row];
        }

        int bestUnit(int row) {
            return unitAt[row];
        }

        void setPresent(int row, int unit) {
            other[row] = unit;
        }

        boolean presentIsPlan(int spare) {
            int filled = 0;
            int bound = 0;
            for (int row = 0; row < rowCount; row++) {
                int unit = other[row];
                if (unit != NONE) {
                    if (cost[row][unit] == 0) {
                        return false;
                    }
                    filled++;
                    bound += row >= unboundCount ? 1 : 0;
                }
            }
            return bound == 0 || filled <= spare;
        }

        long savedByBest() {
            return total(cost, other) - total(cost, unitAt);
        }

        /**
         * A plan has at most the spare units, or gives none to bound rows: the best of each kind are
         * compared, unless those of the second kind can't have more units than the spare ones anyway.
         */
        void findBest(int spare) {
            pair(rowCount, spare);
            if (unboundCount <= spare) {
                return;
            }
            System.arraycopy(unitAt, 0, other, 0, MOST_NEEDS);
            pair(unboundCount, unboundCount);
            if (isLess(total(cost, other), total(tie, other), total(cost, unitAt), total(tie, unitAt))) {
                System.arraycopy(other, 0, unitAt, 0, MOST_NEEDS);
            }
        }

        private long total(long[][] of, int[] units) {
            long total = 0;
            for (int row = 0; row < rowCount; row++) {
                if (units[row] != NONE) {
                    total += of[row][units[row]];
                }
            }
            return total;
        }

        private static boolean isLess(long cost, long tie, long thanCost, long thanTie) {
            return cost < thanCost || cost == thanCost && tie < thanTie;
        }

        /** The best pairing of the first rows with at most so many units. */
        private void pair(int firstRows, int most) {
            Arrays.fill(unitAt, NONE);
            Arrays.fill(rowAt, NONE);
            for (int done = 0; done < firstRows && done < most; done++) {
                findPaths(firstRows);
                int end = cheapestEnd();
                if (end == NONE) {
                    return;
                }
                turnPath(end);
            }
        }

        /** The cheapest ways from rows without a unit to each unit, over rows that change theirs. */
        private void findPaths(int firstRows) {
            Arrays.fill(cameFrom, NONE);
            for (int row = 0; row < firstRows; row++) {
                isFresh[row] = unitAt[row] == NONE;
                rowCost[row] = 0;
                rowTie[row] = 0;
            }
            // a cheapest way goes over no row twice, so a round for each row is enough
            boolean goesOn = true;
            for (int round = 0; round < firstRows && goesOn; round++) {
                goesOn = false;
                for (int row = 0; row < firstRows; row++) {
                    if (isFresh[row]) {
                        isFresh[row] = false;
                        spread(row);
                        goesOn = true;
                    }
                }
            }
        }

        private void spread(int row) {
            for (int unit = 0; unit < MOST_UNITS; unit++) {
                if (cost[row][unit] != 0 && unitAt[row] != unit) {
                    reach(unit, row);
                }
            }
        }

        private void reach(int unit, int row) {
            long newCost = rowCost[row] + cost[row][unit];
            long newTie = rowTie[row] + tie[row][unit];
            if (cameFrom[unit] != NONE && !isLess(newCost, newTie, unitCost[unit], unitTie[unit])) {
                return;
            }
            cameFrom[unit] = row;
            unitCost[unit] = newCost;
            unitTie[unit] = newTie;
            int holder = rowAt[unit];
            if (holder != NONE) {
                rowCost[holder] = newCost - cost[holder][unit];
                rowTie[holder] = newTie - tie[holder][unit];
                isFresh[holder] = true;
            }
        }

        private int cheapestEnd() {
            int end = NONE;
            for (int unit = 0; unit < MOST_UNITS; unit++) {
                if (rowAt[unit] == NONE && cameFrom[unit] != NONE
                        && (end == NONE || isLess(unitCost[unit], unitTie[unit], unitCost[end], unitTie[end]))) {
                    end = unit;
                }
            }
            return end;
        }

        private void turnPath(int end) {
            int unit = end;
            for (int step = 0; step < MOST_NEEDS && unit != NONE; step++) {
                int row = cameFrom[unit];
                if (row == NONE) {
                    return;
                }
                int before = unitAt[row];
                unitAt[row] = unit;
                rowAt[unit] = row;
                unit = before;
            }
        }
    }
}
