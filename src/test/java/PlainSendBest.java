import java.util.ArrayList;
import java.util.Arrays;
import java.util.List;

/**
 * The document in its plainest form, to compare with: small worlds by going through every plan, large
 * ones by the best rest behind each set of used units.
 */
final class PlainSendBest {
    private static final int MANY_PLANS = 5_000;

    private static final class Unit {
        int skills;
        boolean broken;
        boolean stays;
        final int[] seconds = {-1, -1, -1, -1, -1, -1};
    }

    private static final class Incident {
        int rank;
        boolean open = true;
    }

    private static final class Need {
        int incident;
        int skill;
        int unit = -1;
    }

    private final List<Unit> units = new ArrayList<>();
    private final List<Incident> incidents = new ArrayList<>();
    private final List<Need> needs = new ArrayList<>();
    private final int[] limits = new int[16];
    private int reserveUnits = 0;
    private int reserveRank = 10;
    /** How many sends went through every plan, through sets of units, and kept the present plan. */
    int[] ways = new int[3];

    PlainSendBest() {
        Arrays.fill(limits, -1);
    }

    private static void known(boolean is) {
        if (!is) {
            throw new IllegalArgumentException();
        }
    }

    private static void range(int number, int from, int to) {
        if (number < from || number > to) {
            throw new IndexOutOfBoundsException();
        }
    }

    private static void state(boolean is) {
        if (!is) {
            throw new IllegalStateException();
        }
    }

    private static void room(boolean is) {
        if (!is) {
            throw new UnsupportedOperationException();
        }
    }

    private static void known(List<?> list, int number) {
        known(number >= 0 && number < list.size());
    }

    int unit(int skills) {
        range(skills, 0, 65535);
        room(units.size() < 12);
        Unit u = new Unit();
        u.skills = skills;
        units.add(u);
        return units.size() - 1;
    }

    int incident(int rank) {
        range(rank, 1, 9);
        room(incidents.size() < 6);
        Incident i = new Incident();
        i.rank = rank;
        incidents.add(i);
        return incidents.size() - 1;
    }

    void rank(int incident, int rank) {
        known(incidents, incident);
        range(rank, 1, 9);
        state(incidents.get(incident).open);
        incidents.get(incident).rank = rank;
    }

    int need(int incident, int skill, int n) {
        known(incidents, incident);
        known(skill >= 0 && skill < 16);
        range(n, 0, 10);
        state(incidents.get(incident).open);
        room(needs.size() + n <= 10);
        for (int k = 0; k < n; k++) {
            Need d = new Need();
            d.incident = incident;
            d.skill = skill;
            needs.add(d);
        }
        return needs.size();
    }

    void seconds(int unit, int incident, int s) {
        known(units, unit);
        known(incidents, incident);
        range(s, -1, 99999);
        units.get(unit).seconds[incident] = s;
    }

    void limit(int skill, int s) {
        known(skill >= 0 && skill < 16);
        range(s, -1, 99999);
        limits[skill] = s;
    }

    void reserve(int count, int rank) {
        range(count, 0, 12);
        range(rank, 1, 10);
        reserveUnits = count;
        reserveRank = rank;
    }

    void broken(int unit, boolean on) {
        known(units, unit);
        state(units.get(unit).broken != on);
        units.get(unit).broken = on;
        if (on && fills(unit) >= 0) {
            needs.get(fills(unit)).unit = -1;
        }
        endStays();
    }

    void stay(int unit, boolean on) {
        known(units, unit);
        state(fills(unit) >= 0);
        state(units.get(unit).stays != on);
        units.get(unit).stays = on;
    }

    boolean isToldToStay(int unit) {
        return units.get(unit).stays;
    }

    void recall(int unit) {
        known(units, unit);
        state(fills(unit) >= 0);
        needs.get(fills(unit)).unit = -1;
        endStays();
    }

    void close(int incident) {
        known(incidents, incident);
        state(incidents.get(incident).open);
        incidents.get(incident).open = false;
        for (Need d : needs) {
            if (d.incident == incident) {
                d.unit = -1;
            }
        }
        endStays();
    }

    private void endStays() {
        for (int u = 0; u < units.size(); u++) {
            if (fills(u) < 0) {
                units.get(u).stays = false;
            }
        }
    }

    int needAt(int need, int what) {
        known(needs, need);
        known(what >= 0 && what < 4);
        Need d = needs.get(need);
        return new int[] {d.incident, d.skill, d.unit, open(need) ? 1 : 0}[what];
    }

    int fills(int unit) {
        known(units, unit);
        for (int d = 0; d < needs.size(); d++) {
            if (needs.get(d).unit == unit) {
                return d;
            }
        }
        return -1;
    }

    int sum(int what) {
        known(what == 0 || what == 1);
        int total = 0;
        for (int d = 0; d < needs.size(); d++) {
            int unit = needs.get(d).unit;
            if (open(d) && (unit < 0) == (what == 0)) {
                total += rankOf(d) * (what == 0 ? 1 : Math.max(0, secondsOf(unit, d)));
            }
        }
        return total;
    }

    int alternative(int need) {
        known(needs, need);
        state(open(need));
        int best = -1;
        for (int u = units.size() - 1; u >= 0; u--) {
            if (can(u, need) && fills(u) < 0 && (best < 0 || secondsOf(u, need) <= secondsOf(best, need))) {
                best = u;
            }
        }
        return best;
    }

    int never(int i) {
        range(i, 0, Integer.MAX_VALUE);
        List<Integer> found = new ArrayList<>();
        for (int d = 0; d < needs.size(); d++) {
            boolean any = false;
            for (int u = 0; u < units.size(); u++) {
                any |= can(u, d);
            }
            if (open(d) && !any) {
                found.add(d);
            }
        }
        return i < found.size() ? found.get(i) : -1;
    }

    private boolean open(int need) {
        return incidents.get(needs.get(need).incident).open;
    }

    private int rankOf(int need) {
        return incidents.get(needs.get(need).incident).rank;
    }

    private int secondsOf(int unit, int need) {
        return units.get(unit).seconds[needs.get(need).incident];
    }

    private boolean can(int unit, int need) {
        int skill = needs.get(need).skill;
        int s = secondsOf(unit, need);
        return !units.get(unit).broken && (units.get(unit).skills & 1 << skill) != 0 && s >= 0
            && (limits[skill] < 0 || s <= limits[skill]);
    }

    // ---- sending

    private List<Integer> order;
    private List<List<Integer>> able;
    private int fixedCount;
    private int cap;
    private int[] trial;
    private int[] best;

    int send(int saved) {
        range(saved, 0, 1_000_000);
        layOut();
        int[] present = new int[order.size()];
        for (int p = 0; p < present.length; p++) {
            present[p] = needs.get(order.get(p)).unit;
        }
        findBest();
        boolean keep = isPlan(present) && ranks(present) == ranks(best)
            && !(weight(best) <= weight(present) - Math.max(1, saved));
        if (keep) {
            ways[2]++;
        } else {
            take(present);
        }
        int filled = 0;
        for (int d = 0; d < needs.size(); d++) {
            filled += open(d) && needs.get(d).unit >= 0 ? 1 : 0;
        }
        return filled;
    }

    private void take(int[] present) {
        for (int p = 0; p < present.length; p++) {
            if (present[p] >= 0 && present[p] != best[p]) {
                units.get(present[p]).stays = false;
            }
            needs.get(order.get(p)).unit = best[p];
        }
        endStays();
    }

    private void layOut() {
        List<Integer> fixedUnits = new ArrayList<>();
        List<Integer> free = new ArrayList<>();
        for (int d = 0; d < needs.size(); d++) {
            int u = needs.get(d).unit;
            if (u >= 0 && units.get(u).stays && can(u, d)) {
                fixedUnits.add(u);
            } else if (open(d)) {
                free.add(d);
            }
        }
        fixedCount = fixedUnits.size();
        cap = -reserveUnits;
        for (Unit u : units) {
            cap += u.broken ? 0 : 1;
        }
        order = new ArrayList<>();
        for (int d : free) {
            if (rankOf(d) >= reserveRank) {
                order.add(d);
            }
        }
        for (int d : free) {
            if (rankOf(d) < reserveRank) {
                order.add(d);
            }
        }
        able = new ArrayList<>();
        for (int d : order) {
            List<Integer> list = new ArrayList<>();
            for (int u = 0; u < units.size(); u++) {
                if (!fixedUnits.contains(u) && can(u, d)) {
                    list.add(u);
                }
            }
            able.add(list);
        }
    }

    private boolean isPlan(int[] plan) {
        int count = fixedCount;
        int used = 0;
        for (int p = 0; p < plan.length; p++) {
            if (plan[p] < 0) {
                continue;
            }
            if (!able.get(p).contains(plan[p]) || (used & 1 << plan[p]) != 0) {
                return false;
            }
            used |= 1 << plan[p];
            count++;
            if (rankOf(order.get(p)) < reserveRank && count > cap) {
                return false;
            }
        }
        return true;
    }

    private long ranks(int[] plan) {
        long total = 0;
        for (int p = 0; p < plan.length; p++) {
            total += plan[p] < 0 ? rankOf(order.get(p)) : 0;
        }
        return total;
    }

    private long weight(int[] plan) {
        long total = 0;
        for (int p = 0; p < plan.length; p++) {
            total += plan[p] < 0 ? 0 : (long) rankOf(order.get(p)) * secondsOf(plan[p], order.get(p));
        }
        return total;
    }

    private void findBest() {
        long plans = 1;
        for (List<Integer> list : able) {
            plans = Math.min(MANY_PLANS + 1L, plans * (list.size() + 1));
        }
        trial = new int[order.size()];
        best = null;
        if (plans <= MANY_PLANS) {
            ways[0]++;
            tryAll(0);
        } else {
            ways[1]++;
            followBestRests();
        }
    }

    private void tryAll(int p) {
        if (p == trial.length) {
            if (isPlan(trial) && (best == null || isBetter(trial, best))) {
                best = trial.clone();
            }
            return;
        }
        for (int u = -1; u < units.size(); u++) {
            if (u < 0 || able.get(p).contains(u)) {
                trial[p] = u;
                tryAll(p + 1);
            }
        }
    }

    private boolean isBetter(int[] a, int[] b) {
        if (ranks(a) != ranks(b)) {
            return ranks(a) < ranks(b);
        }
        if (weight(a) != weight(b)) {
            return weight(a) < weight(b);
        }
        for (int p = 0; p < a.length; p++) {
            if (a[p] != b[p]) {
                return a[p] >= 0 && (b[p] < 0 || a[p] < b[p]);
            }
        }
        return false;
    }

    private static final int SETS = 1 << 12;
    private final long[] rests = new long[11 * SETS];

    /** Ranks times 10 to the 9th and weighted seconds of the best way to go on from a need with units used. */
    private long rest(int p, int used) {
        if (p == trial.length) {
            return 0;
        }
        int key = p * SETS + used;
        if (rests[key] < 0) {
            long least = price(p, -1) + rest(p + 1, used);
            for (int u : able.get(p)) {
                if (isFree(p, u, used)) {
                    least = Math.min(least, price(p, u) + rest(p + 1, used | 1 << u));
                }
            }
            rests[key] = least;
        }
        return rests[key];
    }

    private long price(int p, int u) {
        int need = order.get(p);
        return u < 0 ? rankOf(need) * 1_000_000_000L : (long) rankOf(need) * secondsOf(u, need);
    }

    private boolean isFree(int p, int u, int used) {
        boolean tooMany = rankOf(order.get(p)) < reserveRank && fixedCount + Integer.bitCount(used) + 1 > cap;
        return !tooMany && (used & 1 << u) == 0;
    }

    private void followBestRests() {
        Arrays.fill(rests, -1);
        int used = 0;
        for (int p = 0; p < trial.length; p++) {
            trial[p] = lowestOfBest(p, used);
            used |= trial[p] < 0 ? 0 : 1 << trial[p];
        }
        best = trial;
    }

    private int lowestOfBest(int p, int used) {
        for (int u : able.get(p)) {
            if (isFree(p, u, used) && price(p, u) + rest(p + 1, used | 1 << u) == rest(p, used)) {
                return u;
            }
        }
        return -1;
    }
}
