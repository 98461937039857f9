import java.util.function.Supplier;
import java.util.function.ToIntFunction;

/**
 * All that the face tells about an object, as a text: what can be asked, and what only further calls show
 * (skills, seconds, limits, ranks, the reserve, who stays). Most of these change the object, so it is made
 * anew for each of them.
 */
final class Probe {
    private static final int MOST_SECONDS = 99_999;

    private final Supplier<SendBest> maker;
    private final StringBuilder text = new StringBuilder();
    private final int units;
    private final int incidents;
    private final int needs;

    private Probe(Supplier<SendBest> maker) {
        this.maker = maker;
        SendBest x = maker.get();
        units = countWhile(u -> isKnown(() -> x.fills(u)));
        needs = countWhile(d -> isKnown(() -> x.needAt(d, 0)));
        // 0 is no rank, so that nothing is changed
        incidents = countWhile(i -> isKnown(() -> x.rank(i, 0)));
    }

    static String whole(Supplier<SendBest> maker) {
        Probe probe = new Probe(maker);
        probe.tellAsked("now", maker.get());
        probe.tellRoom();
        probe.tellUnits();
        probe.tellRanks();
        probe.tellLimits();
        probe.tellReserve();
        probe.tellSends();
        probe.tellNewOnes();
        return probe.text.toString();
    }

    private interface Numbered {
        boolean is(int number);
    }

    private static int countWhile(Numbered known) {
        int count = 0;
        while (count < 100 && known.is(count)) {
            count++;
        }
        return count;
    }

    private static boolean isKnown(Check.Call call) {
        try {
            call.run();
        } catch (IllegalArgumentException e) {
            return false;
        } catch (IndexOutOfBoundsException e) {
            return true;
        }
        return true;
    }

    private static String outcome(SendBest x, ToIntFunction<SendBest> call) {
        try {
            return Integer.toString(call.applyAsInt(x));
        } catch (RuntimeException e) {
            return e.getClass().getSimpleName();
        }
    }

    private static int done(Check.Call call) {
        call.run();
        return 0;
    }

    private void tell(String what, String is) {
        text.append(what).append(": ").append(is).append('\n');
    }

    private void tellAsked(String when, SendBest x) {
        for (int d = 0; d < needs; d++) {
            int need = d;
            tell(when + " need " + d, x.needAt(d, 0) + " " + x.needAt(d, 1) + " " + x.needAt(d, 2) + " " + x.needAt(d, 3)
                + " " + outcome(x, y -> y.alternative(need)));
        }
        for (int u = 0; u < units; u++) {
            tell(when + " unit " + u, "" + x.fills(u));
        }
        for (int i = 0; i < 11; i++) {
            tell(when + " never " + i, "" + x.never(i));
        }
        tell(when + " sums", x.sum(0) + " " + x.sum(1));
    }

    private void tellRoom() {
        tell("next unit", outcome(maker.get(), x -> x.unit(0)));
        tell("next incident", outcome(maker.get(), x -> x.incident(1)));
        for (int i = 0; i < incidents; i++) {
            int incident = i;
            for (int n = 0; n <= 10; n++) {
                int more = n;
                tell(n + " needs more of " + i, outcome(maker.get(), x -> x.need(incident, 0, more)));
            }
        }
    }

    private void tellUnits() {
        for (int u = 0; u < units; u++) {
            int unit = u;
            tell("stay " + u, outcome(maker.get(), x -> done(() -> x.stay(unit, true))));
            tell("break " + u, outcome(maker.get(), x -> done(() -> x.broken(unit, true))));
            for (int i = 0; i < incidents; i++) {
                tellSeconds(u, i);
            }
        }
    }

    /** The weighted seconds that a unit has for a need of each skill, when it is the only one. */
    private void tellSeconds(int unit, int incident) {
        for (int skill = 0; skill < 16; skill++) {
            SendBest x = alone(unit, incident);
            moreNeeds(x, incident, skill, 1);
            x.limit(skill, -1);
            tell("skill " + skill + " of " + unit + " for " + incident, x.send(0) + " " + x.sum(1));
        }
    }

    /** With this unit and this incident alone, and nothing sent. */
    private SendBest alone(int unit, int incident) {
        SendBest x = maker.get();
        for (int u = 0; u < units; u++) {
            int other = u;
            outcome(x, y -> done(() -> y.recall(other)));
            outcome(x, y -> done(() -> y.broken(other, other != unit)));
        }
        for (int i = 0; i < incidents; i++) {
            int other = i;
            if (other != incident) {
                outcome(x, y -> done(() -> y.close(other)));
            }
        }
        x.reserve(0, 10);
        return x;
    }

    private static void moreNeeds(SendBest x, int incident, int skill, int n) {
        outcome(x, y -> y.need(incident, skill, n));
    }

    private void tellRanks() {
        for (int i = 0; i < incidents; i++) {
            SendBest x = alone(-1, i);
            moreNeeds(x, i, 0, 1);
            tell("ranks of " + i, "" + x.sum(0));
        }
    }

    private void tellLimits() {
        for (int skill = 0; skill < 16; skill++) {
            for (int i = 0; i < 6; i++) {
                tell("most seconds with skill " + skill + " for " + i, "" + mostSeconds(skill, i));
            }
        }
    }

    /** The most seconds with which the last unit, or a new one if there is room, can fill a need. */
    private int mostSeconds(int skill, int incident) {
        SendBest x = alone(units, incident);
        outcome(x, y -> y.incident(1));
        moreNeeds(x, incident, skill, 1);
        int unit = outcome(x, y -> y.unit(65535)).equals("" + units) ? units : units - 1;
        outcome(x, y -> done(() -> y.broken(unit, false)));
        int can = -1;
        int not = MOST_SECONDS + 1;
        while (not - can > 1) {
            int s = (can + not) / 2;
            outcome(x, y -> done(() -> y.seconds(unit, incident, s)));
            if (canFillOne(x, unit, incident, skill)) {
                can = s;
            } else {
                not = s;
            }
        }
        return can;
    }

    private static boolean canFillOne(SendBest x, int unit, int incident, int skill) {
        for (int d = 0; isNeed(x, d); d++) {
            if (x.needAt(d, 0) == incident && x.needAt(d, 1) == skill && x.needAt(d, 3) == 1
                    && x.alternative(d) == unit) {
                return true;
            }
        }
        return false;
    }

    private static boolean isNeed(SendBest x, int need) {
        return isKnown(() -> x.needAt(need, 0));
    }

    /** How many needs are filled, all of one rank, with all units and with ever fewer. */
    private void tellReserve() {
        for (int rank = 1; rank <= 9; rank++) {
            SendBest x = maker.get();
            readyForAll(x, rank);
            for (int u = 11; u >= 0; u--) {
                int unit = u;
                tell("filled at rank " + rank + " by unit " + u + " and those before", "" + x.send(0));
                outcome(x, y -> done(() -> y.broken(unit, true)));
            }
        }
    }

    private static void readyForAll(SendBest x, int rank) {
        for (int i = 0; i < 6; i++) {
            int incident = i;
            outcome(x, y -> y.incident(rank));
            outcome(x, y -> done(() -> y.rank(incident, rank)));
            for (int n = 10; n > 0; n--) {
                moreNeeds(x, i, 0, n);
            }
        }
        for (int skill = 0; skill < 16; skill++) {
            x.limit(skill, -1);
        }
        for (int u = 0; u < 12; u++) {
            int unit = u;
            outcome(x, y -> y.unit(65535));
            outcome(x, y -> done(() -> y.recall(unit)));
            outcome(x, y -> done(() -> y.broken(unit, false)));
            for (int i = 0; i < 6; i++) {
                int incident = i;
                outcome(x, y -> done(() -> y.seconds(unit, incident, 0)));
            }
        }
    }

    private void tellSends() {
        SendBest x = maker.get();
        tell("send(0)", "" + x.send(0));
        tellAsked("after send(0)", x);
        SendBest y = maker.get();
        tell("send(1000000)", "" + y.send(1000000));
        tellAsked("after send(1000000)", y);
        SendBest z = maker.get();
        for (int u = 0; u < units; u++) {
            int unit = u;
            outcome(z, w -> done(() -> w.recall(unit)));
        }
        tell("send(0) from anew", "" + z.send(0));
        tellAsked("after send(0) from anew", z);
    }

    /** A new unit and a new incident begin with nothing, whatever numbers were used before there were such. */
    private void tellNewOnes() {
        SendBest x = maker.get();
        for (int u = 0; u < units; u++) {
            int unit = u;
            outcome(x, y -> done(() -> y.broken(unit, true)));
        }
        tell("new unit", outcome(x, y -> y.unit(65535)));
        tell("new incident", outcome(x, y -> y.incident(5)));
        tell("new need", outcome(x, y -> y.need(incidents, 0, 1)));
        tell("its unit", outcome(x, y -> y.needAt(needs, 2)));
        tell("the new unit fills", outcome(x, y -> y.fills(units)));
        tell("the new unit stays", outcome(x, y -> done(() -> y.stay(units, false))));
        tell("the new unit is broken", outcome(x, y -> done(() -> y.broken(units, false))));
        for (int i = 0; i < 11; i++) {
            tell("not by a new unit " + i, "" + x.never(i));
        }
        tell("sums with new ones", x.sum(0) + " " + x.sum(1));
    }
}
