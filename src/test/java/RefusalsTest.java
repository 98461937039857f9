import java.util.function.Consumer;
import java.util.function.Supplier;

/**
 * "Terms", refusals: each refusal of each promise, which one comes first where a call breaks several, and
 * that what is refused changes nothing.
 */
public final class RefusalsTest {
    private static final Check check = new Check("RefusalsTest");
    private static final int LEAST = Integer.MIN_VALUE;
    private static final int MOST = Integer.MAX_VALUE;
    private static final int[] NO_RANKS = {LEAST, -1, 0, 10, MOST};
    private static final int[] NO_SECONDS = {LEAST, -2, 100_000, MOST};
    private static final int[] NO_SKILLS = {LEAST, -1, 16, MOST};
    private static final int[] NO_COUNTS = {LEAST, -1, 11, MOST};

    private final String name;
    private final Supplier<SendBest> world;
    private final String before;

    private RefusalsTest(String name, Supplier<SendBest> world) {
        this.name = name;
        this.world = world;
        before = Probe.whole(world);
    }

    public static void main(String[] args) {
        RefusalsTest some = new RefusalsTest("some", RefusalsTest::someThings);
        some.worldIsAsTold();
        some.probeSeesChanges();
        some.setUpInSome();
        some.needInSome();
        some.changesInSome();
        some.asksInSome();
        RefusalsTest empty = new RefusalsTest("empty", SendBest::new);
        empty.numbers(0, 0, 0);
        empty.anyWorld();
        RefusalsTest full = new RefusalsTest("full", RefusalsTest::fullOfAll);
        full.seen("send(1000000)", x -> x.send(1_000_000));
        full.inFull();
        full.numbers(12, 6, 10);
        full.anyWorld();
        check.end();
    }

    /**
     * Units 0 (sent), 1 (sent, stays), 2 (broken), 3 (sent nowhere); incidents 0 and 2 (open), 1 (closed);
     * needs 0 and 1 of incident 0, 2 of incident 1, 3 and 4 of incident 2. Another send would change it.
     */
    private static SendBest someThings() {
        SendBest x = new SendBest();
        int[] skills = {0b0111, 0b0001, 65535, 0b1001};
        for (int skill : skills) {
            x.unit(skill);
        }
        int[] ranks = {5, 3, 9};
        for (int i = 0; i < 3; i++) {
            x.incident(ranks[i]);
            for (int u = 0; u < 4; u++) {
                x.seconds(u, i, 100 + 30 * u + 7 * i);
            }
        }
        x.seconds(3, 0, -1);
        x.need(0, 0, 1);
        x.need(0, 1, 1);
        x.need(1, 0, 1);
        x.need(2, 0, 1);
        x.need(2, 15, 1);
        x.limit(0, 170);
        x.limit(3, 0);
        x.reserve(1, 6);
        x.close(1);
        x.broken(2, true);
        x.send(0);
        x.stay(1, true);
        x.seconds(3, 2, 1);
        return x;
    }

    /** All the room is used; incident 5 is closed; another send would change it. */
    private static SendBest fullOfAll() {
        SendBest x = new SendBest();
        for (int i = 0; i < 6; i++) {
            x.incident(1 + i);
        }
        for (int u = 0; u < 12; u++) {
            x.unit(1 << u);
            x.seconds(u, u % 5, 10 * u);
        }
        for (int d = 0; d < 10; d++) {
            x.need(d % 6, d, 1);
        }
        x.close(5);
        x.send(0);
        x.recall(0);
        return x;
    }

    private void unknown(String call, Consumer<SendBest> made) {
        refused(call, IllegalArgumentException.class, made);
    }

    private void range(String call, Consumer<SendBest> made) {
        refused(call, IndexOutOfBoundsException.class, made);
    }

    private void state(String call, Consumer<SendBest> made) {
        refused(call, IllegalStateException.class, made);
    }

    private void noRoom(String call, Consumer<SendBest> made) {
        refused(call, UnsupportedOperationException.class, made);
    }

    private void refused(String call, Class<?> due, Consumer<SendBest> made) {
        String where = name + ": " + call;
        check.due(where + " throws " + due.getSimpleName(), thrown(world.get(), made) == due ? 1 : 0, 1);
        String after = Probe.whole(() -> {
            SendBest x = world.get();
            thrown(x, made);
            return x;
        });
        check.due(where + " changes nothing", after.equals(before) ? 1 : 0, 1);
    }

    private static Class<?> thrown(SendBest x, Consumer<SendBest> made) {
        try {
            made.accept(x);
        } catch (RuntimeException e) {
            return e.getClass();
        }
        return null;
    }

    private void worldIsAsTold() {
        SendBest x = world.get();
        check.due("some: fills(0)", x.fills(0), 3);
        check.due("some: fills(1)", x.fills(1), 0);
        check.due("some: fills(2)", x.fills(2), -1);
        check.due("some: fills(3)", x.fills(3), -1);
    }

    /** Without this the tests below could be blind. */
    private void probeSeesChanges() {
        seen("unit(0)", x -> x.unit(0));
        seen("incident(1)", x -> x.incident(1));
        seen("rank(0, 6)", x -> x.rank(0, 6));
        seen("rank(2, 8)", x -> x.rank(2, 8));
        seen("need(0, 0, 1)", x -> x.need(0, 0, 1));
        seen("seconds(0, 0, 101)", x -> x.seconds(0, 0, 101));
        seen("seconds(2, 2, -1)", x -> x.seconds(2, 2, -1));
        seen("seconds(3, 0, 0)", x -> x.seconds(3, 0, 0));
        seen("limit(0, 169)", x -> x.limit(0, 169));
        seen("limit(3, -1)", x -> x.limit(3, -1));
        seen("limit(15, 99998)", x -> x.limit(15, 99998));
        seen("reserve(2, 6)", x -> x.reserve(2, 6));
        seen("reserve(1, 7)", x -> x.reserve(1, 7));
        seen("reserve(0, 6)", x -> x.reserve(0, 6));
        seen("broken(3, true)", x -> x.broken(3, true));
        seen("broken(2, false)", x -> x.broken(2, false));
        seen("send(0)", x -> x.send(0));
        seen("stay(0, true)", x -> x.stay(0, true));
        seen("stay(1, false)", x -> x.stay(1, false));
        seen("recall(0)", x -> x.recall(0));
        seen("close(0)", x -> x.close(0));
        check.due("some: two probes are the same", Probe.whole(world).equals(before) ? 1 : 0, 1);
    }

    private void seen(String call, Consumer<SendBest> made) {
        String after = Probe.whole(() -> {
            SendBest x = world.get();
            made.accept(x);
            return x;
        });
        check.due(name + ": " + call + " is seen", after.equals(before) ? 0 : 1, 1);
    }

    private void setUpInSome() {
        for (int skills : new int[] {LEAST, -1, 65_536, 65_537, MOST}) {
            range("2: unit(" + skills + ")", x -> x.unit(skills));
        }
        for (int rank : NO_RANKS) {
            range("3: incident(" + rank + ")", x -> x.incident(rank));
            range("4: rank(0, " + rank + ")", x -> x.rank(0, rank));
            range("4: rank(1, " + rank + "), closed, too", x -> x.rank(1, rank));
            unknown("4: rank(3, " + rank + ")", x -> x.rank(3, rank));
        }
        for (int rank : new int[] {1, 3, 9}) {
            state("4: rank(1, " + rank + "), closed", x -> x.rank(1, rank));
        }
        for (int s : NO_SECONDS) {
            range("6: seconds(0, 0, " + s + ")", x -> x.seconds(0, 0, s));
            range("6: seconds(2, 1, " + s + "), broken, closed", x -> x.seconds(2, 1, s));
            unknown("6: seconds(4, 0, " + s + ")", x -> x.seconds(4, 0, s));
            unknown("6: seconds(0, 3, " + s + ")", x -> x.seconds(0, 3, s));
            range("7: limit(0, " + s + ")", x -> x.limit(0, s));
            range("7: limit(15, " + s + ")", x -> x.limit(15, s));
            unknown("7: limit(16, " + s + ")", x -> x.limit(16, s));
            unknown("7: limit(-1, " + s + ")", x -> x.limit(-1, s));
        }
        numbers(4, 3, 5);
        anyWorld();
    }

    private void needInSome() {
        for (int n : NO_COUNTS) {
            range("5: need(0, 0, " + n + ")", x -> x.need(0, 0, n));
            range("5: need(1, 0, " + n + "), closed, too", x -> x.need(1, 0, n));
            unknown("5: need(3, 0, " + n + ")", x -> x.need(3, 0, n));
            unknown("5: need(0, 16, " + n + ")", x -> x.need(0, 16, n));
            unknown("5: need(1, -1, " + n + "), closed, too", x -> x.need(1, -1, n));
        }
        for (int skill : NO_SKILLS) {
            unknown("5: need(0, " + skill + ", 1)", x -> x.need(0, skill, 1));
            unknown("5: need(0, " + skill + ", 0)", x -> x.need(0, skill, 0));
            unknown("5: need(1, " + skill + ", 1), closed, too", x -> x.need(1, skill, 1));
            unknown("5: need(0, " + skill + ", 6), no room, too", x -> x.need(0, skill, 6));
        }
        for (int n : new int[] {0, 1, 5, 6, 10}) {
            state("5: need(1, 0, " + n + "), closed", x -> x.need(1, 0, n));
        }
        for (int n = 6; n <= 10; n++) {
            int more = n;
            noRoom("5: need(2, 3, " + n + "), 5 before", x -> x.need(2, 3, more));
        }
    }

    private void changesInSome() {
        state("9: broken(2, true), it is", x -> x.broken(2, true));
        for (int u : new int[] {0, 1, 3}) {
            state("9: broken(" + u + ", false), it is not", x -> x.broken(u, false));
        }
        state("11: stay(1, true), it does", x -> x.stay(1, true));
        state("11: stay(0, false), it does not", x -> x.stay(0, false));
        for (int u : new int[] {2, 3}) {
            state("11: stay(" + u + ", true), it fills none", x -> x.stay(u, true));
            state("11: stay(" + u + ", false), it fills none", x -> x.stay(u, false));
            state("12: recall(" + u + "), it fills none", x -> x.recall(u));
        }
        state("13: close(1), closed", x -> x.close(1));
    }

    private void asksInSome() {
        state("17: alternative(2), closed", x -> x.alternative(2));
        for (int what : new int[] {LEAST, -1, 4, 5, MOST}) {
            for (int d = 0; d < 5; d++) {
                int need = d;
                unknown("14: needAt(" + d + ", " + what + ")", x -> x.needAt(need, what));
            }
        }
    }

    private void inFull() {
        for (int skills : new int[] {0, 1, 65_535}) {
            noRoom("2: unit(" + skills + ")", x -> x.unit(skills));
        }
        for (int skills : new int[] {-1, 65_536}) {
            range("2: unit(" + skills + "), no room, too", x -> x.unit(skills));
        }
        for (int rank : new int[] {1, 9}) {
            noRoom("3: incident(" + rank + ")", x -> x.incident(rank));
        }
        for (int rank : NO_RANKS) {
            range("3: incident(" + rank + "), no room, too", x -> x.incident(rank));
        }
        for (int n = 1; n <= 10; n++) {
            int more = n;
            noRoom("5: need(0, 0, " + n + ")", x -> x.need(0, 0, more));
            state("5: need(5, 0, " + n + "), closed and no room", x -> x.need(5, 0, more));
            unknown("5: need(0, 16, " + n + "), no room, too", x -> x.need(0, 16, more));
            unknown("5: need(6, 0, " + n + "), no room, too", x -> x.need(6, 0, more));
        }
        state("5: need(5, 0, 0), closed", x -> x.need(5, 0, 0));
        for (int n : NO_COUNTS) {
            range("5: need(0, 0, " + n + "), no room, too", x -> x.need(0, 0, n));
            range("5: need(5, 0, " + n + "), closed and no room, too", x -> x.need(5, 0, n));
        }
    }

    /** Numbers that are not there, where these are as many as there are. */
    private void numbers(int units, int incidents, int needs) {
        for (int u : new int[] {LEAST, -1, units, units + 1, MOST}) {
            unknown("6: seconds(" + u + ", 0, 0)", x -> x.seconds(u, 0, 0));
            unknown("6: seconds(" + u + ", 99, 100000)", x -> x.seconds(u, 99, 100_000));
            unknown("9: broken(" + u + ", true)", x -> x.broken(u, true));
            unknown("9: broken(" + u + ", false)", x -> x.broken(u, false));
            unknown("11: stay(" + u + ", true)", x -> x.stay(u, true));
            unknown("11: stay(" + u + ", false)", x -> x.stay(u, false));
            unknown("12: recall(" + u + ")", x -> x.recall(u));
            unknown("15: fills(" + u + ")", x -> x.fills(u));
        }
        for (int i : new int[] {LEAST, -1, incidents, incidents + 1, MOST}) {
            unknown("4: rank(" + i + ", 1)", x -> x.rank(i, 1));
            unknown("4: rank(" + i + ", 10)", x -> x.rank(i, 10));
            unknown("5: need(" + i + ", 0, 0)", x -> x.need(i, 0, 0));
            unknown("5: need(" + i + ", 15, 1)", x -> x.need(i, 15, 1));
            unknown("5: need(" + i + ", 16, 11)", x -> x.need(i, 16, 11));
            unknown("6: seconds(0, " + i + ", -1)", x -> x.seconds(0, i, -1));
            unknown("6: seconds(0, " + i + ", -2)", x -> x.seconds(0, i, -2));
            unknown("13: close(" + i + ")", x -> x.close(i));
        }
        for (int d : new int[] {LEAST, -1, needs, needs + 1, MOST}) {
            for (int what = -1; what <= 4; what++) {
                int asked = what;
                unknown("14: needAt(" + d + ", " + what + ")", x -> x.needAt(d, asked));
            }
            unknown("17: alternative(" + d + ")", x -> x.alternative(d));
        }
    }

    /** What is refused whatever there is. */
    private void anyWorld() {
        for (int skill : NO_SKILLS) {
            unknown("7: limit(" + skill + ", 5)", x -> x.limit(skill, 5));
            unknown("7: limit(" + skill + ", 100000)", x -> x.limit(skill, 100_000));
        }
        for (int s : NO_SECONDS) {
            range("7: limit(7, " + s + ")", x -> x.limit(7, s));
        }
        for (int units : new int[] {LEAST, -1, 13, MOST}) {
            range("8: reserve(" + units + ", 5)", x -> x.reserve(units, 5));
            range("8: reserve(" + units + ", 11)", x -> x.reserve(units, 11));
        }
        for (int rank : new int[] {LEAST, -1, 0, 11, MOST}) {
            range("8: reserve(3, " + rank + ")", x -> x.reserve(3, rank));
        }
        for (int saved : new int[] {LEAST, -1, 1_000_001, MOST}) {
            range("10: send(" + saved + ")", x -> x.send(saved));
        }
        for (int what : new int[] {LEAST, -1, 2, MOST}) {
            unknown("16: sum(" + what + ")", x -> x.sum(what));
        }
        for (int i : new int[] {LEAST, -1}) {
            range("18: never(" + i + ")", x -> x.never(i));
        }
    }
}
