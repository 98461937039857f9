/** Promises 1 to 8: a new object, units, incidents, ranks, needs, seconds, limits, the reserve. */
public final class SettingUpTest {
    private static final Check check = new Check("SettingUpTest");
    private static final int LEAST = Integer.MIN_VALUE;
    private static final int MOST = Integer.MAX_VALUE;

    public static void main(String[] args) {
        newObject();
        newObjectHasNoReserve();
        unit();
        unitSkills();
        incident();
        rank();
        need();
        needInOrder();
        seconds();
        noSecondsAtFirst();
        limit();
        reserve();
        objectsAreApart();
        check.end();
    }

    private static void newObject() {
        SendBest x = new SendBest();
        check.due("1: sum(0)", x.sum(0), 0);
        check.due("1: sum(1)", x.sum(1), 0);
        check.due("1: never(0)", x.never(0), -1);
        check.due("1: send(0)", x.send(0), 0);
        check.unknown("1: fills(0)", () -> x.fills(0));
        check.unknown("1: needAt(0, 0)", () -> x.needAt(0, 0));
        check.unknown("1: close(0)", () -> x.close(0));
        check.unknown("1: rank(0, 1)", () -> x.rank(0, 1));
        check.unknown("1: alternative(0)", () -> x.alternative(0));
        check.due("1: unit(0)", x.unit(0), 0);
        check.due("1: incident(1)", x.incident(1), 0);
    }

    private static void newObjectHasNoReserve() {
        SendBest x = Worlds.oneToOne(3, 1);
        check.due("1: send(0) with every unit", x.send(0), 3);
        SendBest y = Worlds.oneToOne(2, 9);
        check.due("1: send(0) at rank 9", y.send(0), 2);
    }

    private static void unit() {
        SendBest x = new SendBest();
        check.range("2: unit(65536)", () -> x.unit(65536));
        check.range("2: unit(-1)", () -> x.unit(-1));
        check.range("2: unit(least)", () -> x.unit(LEAST));
        check.range("2: unit(most)", () -> x.unit(MOST));
        for (int i = 0; i < 12; i++) {
            check.due("2: unit", x.unit(i % 2 == 0 ? 65535 : 0), i);
        }
        check.noRoom("2: the 13th unit", () -> x.unit(1));
        check.range("2: the 13th unit, out of range", () -> x.unit(65536));
        check.due("2: fills(11)", x.fills(11), -1);
        check.unknown("2: fills(12)", () -> x.fills(12));
    }

    private static void unitSkills() {
        for (int skill = 0; skill < 16; skill++) {
            SendBest x = new SendBest();
            x.unit(1 << skill);
            x.unit(65535 ^ 1 << skill);
            x.incident(1);
            x.seconds(0, 0, 9);
            x.seconds(1, 0, 1);
            x.need(0, skill, 2);
            check.due("2: send with skill " + skill, x.send(0), 1);
            check.due("2: needAt(0, 2) with skill " + skill, x.needAt(0, 2), 0);
        }
    }

    private static void incident() {
        SendBest x = new SendBest();
        check.range("3: incident(0)", () -> x.incident(0));
        check.range("3: incident(10)", () -> x.incident(10));
        check.range("3: incident(least)", () -> x.incident(LEAST));
        check.due("3: incident(1)", x.incident(1), 0);
        check.due("3: incident(9)", x.incident(9), 1);
        x.close(0);
        for (int i = 2; i < 6; i++) {
            check.due("3: incident", x.incident(i), i);
        }
        check.noRoom("3: the 7th incident", () -> x.incident(1));
        check.range("3: the 7th incident, out of range", () -> x.incident(10));
        x.need(1, 0, 1);
        check.due("3: sum(0)", x.sum(0), 9);
        check.unknown("3: rank(6, 1)", () -> x.rank(6, 1));
    }

    private static void rank() {
        SendBest x = new SendBest();
        x.incident(4);
        x.incident(5);
        x.need(0, 0, 2);
        check.unknown("4: rank(2, 1)", () -> x.rank(2, 1));
        check.unknown("4: rank(-1, 1)", () -> x.rank(-1, 1));
        check.unknown("4: rank(2, 0)", () -> x.rank(2, 0));
        check.range("4: rank(0, 0)", () -> x.rank(0, 0));
        check.range("4: rank(0, 10)", () -> x.rank(0, 10));
        check.due("4: sum(0)", x.sum(0), 8);
        x.rank(0, 9);
        check.due("4: sum(0) at 9", x.sum(0), 18);
        x.rank(0, 1);
        check.due("4: sum(0) at 1", x.sum(0), 2);
        x.rank(0, 1);
        x.close(1);
        check.range("4: rank(1, 0), closed", () -> x.rank(1, 0));
        check.state("4: rank(1, 3), closed", () -> x.rank(1, 3));
    }

    private static void need() {
        SendBest x = new SendBest();
        x.incident(2);
        x.incident(3);
        check.due("5: need(0, 0, 0)", x.need(0, 0, 0), 0);
        check.due("5: need(0, 15, 3)", x.need(0, 15, 3), 3);
        check.due("5: need(1, 0, 6)", x.need(1, 0, 6), 9);
        check.noRoom("5: need(0, 0, 2)", () -> x.need(0, 0, 2));
        check.noRoom("5: need(0, 0, 10)", () -> x.need(0, 0, 10));
        check.due("5: need(0, 7, 1)", x.need(0, 7, 1), 10);
        check.due("5: need(0, 0, 0) when full", x.need(0, 0, 0), 10);
        check.noRoom("5: need(0, 0, 1) when full", () -> x.need(0, 0, 1));
        check.due("5: needAt(2, 0)", x.needAt(2, 0), 0);
        check.due("5: needAt(3, 0)", x.needAt(3, 0), 1);
        check.due("5: needAt(9, 1)", x.needAt(9, 1), 7);
        check.due("5: sum(0)", x.sum(0), 26);
        SendBest y = new SendBest();
        y.incident(2);
        check.due("5: need(0, 0, 10)", y.need(0, 0, 10), 10);
        y.close(0);
        y.incident(1);
        check.noRoom("5: closed ones count, too", () -> y.need(1, 0, 1));
    }

    private static void needInOrder() {
        SendBest x = new SendBest();
        x.incident(2);
        x.incident(2);
        x.need(0, 0, 9);
        x.close(1);
        check.unknown("5: need(2, 0, 1)", () -> x.need(2, 0, 1));
        check.unknown("5: need(-1, 0, 11)", () -> x.need(-1, 0, 11));
        check.unknown("5: need(1, 16, 11)", () -> x.need(1, 16, 11));
        check.unknown("5: need(0, -1, 1)", () -> x.need(0, -1, 1));
        check.range("5: need(1, 0, 11)", () -> x.need(1, 0, 11));
        check.range("5: need(0, 0, -1)", () -> x.need(0, 0, -1));
        check.range("5: need(0, 0, most)", () -> x.need(0, 0, MOST));
        check.range("5: need(0, 0, least)", () -> x.need(0, 0, LEAST));
        check.state("5: need(1, 0, 2)", () -> x.need(1, 0, 2));
        check.state("5: need(1, 0, 0)", () -> x.need(1, 0, 0));
        check.noRoom("5: need(0, 0, 2)", () -> x.need(0, 0, 2));
        check.due("5: refused ones changed nothing", x.need(0, 0, 0), 9);
    }

    private static void seconds() {
        SendBest x = Worlds.oneToOne(2, 1);
        check.unknown("6: seconds(2, 0, -2)", () -> x.seconds(2, 0, -2));
        check.unknown("6: seconds(0, 2, 0)", () -> x.seconds(0, 2, 0));
        check.unknown("6: seconds(-1, 0, 0)", () -> x.seconds(-1, 0, 0));
        check.unknown("6: seconds(0, -1, 0)", () -> x.seconds(0, -1, 0));
        check.range("6: seconds(0, 0, -2)", () -> x.seconds(0, 0, -2));
        check.range("6: seconds(0, 0, 100000)", () -> x.seconds(0, 0, 100000));
        x.seconds(0, 0, 99999);
        check.due("6: send(0)", x.send(0), 2);
        check.due("6: sum(1)", x.sum(1), 99999 + 10);
        x.seconds(0, 0, 0);
        check.due("6: sum(1) at 0 seconds", x.sum(1), 10);
        x.seconds(0, 0, -1);
        check.due("6: never(0) without seconds", x.never(0), 0);
        check.due("6: send(0) without seconds", x.send(0), 1);
        x.close(1);
        x.seconds(1, 1, 5);
    }

    private static void noSecondsAtFirst() {
        SendBest x = new SendBest();
        for (int i = 0; i < 6; i++) {
            x.incident(1);
            x.need(i, 0, 1);
        }
        for (int u = 0; u < 12; u++) {
            x.unit(65535);
        }
        check.due("6: none at first, send(0)", x.send(0), 0);
        check.due("6: none at first, never(5)", x.never(5), 5);
        check.due("6: none at first, alternative(5)", x.alternative(5), -1);
    }

    private static void limit() {
        SendBest x = new SendBest();
        x.unit(65535);
        x.incident(1);
        x.need(0, 15, 1);
        x.seconds(0, 0, 50);
        check.unknown("7: limit(16, -2)", () -> x.limit(16, -2));
        check.unknown("7: limit(-1, 0)", () -> x.limit(-1, 0));
        check.range("7: limit(0, -2)", () -> x.limit(0, -2));
        check.range("7: limit(15, 100000)", () -> x.limit(15, 100000));
        x.limit(14, 0);
        check.due("7: another skill's limit", x.never(0), -1);
        x.limit(15, 49);
        check.due("7: above the limit", x.never(0), 0);
        check.due("7: send above the limit", x.send(0), 0);
        x.limit(15, 50);
        check.due("7: at the limit", x.send(0), 1);
        x.limit(15, 0);
        check.due("7: a limit of 0", x.never(0), 0);
        x.seconds(0, 0, 0);
        check.due("7: 0 seconds", x.never(0), -1);
        x.seconds(0, 0, 99999);
        x.limit(15, 99999);
        check.due("7: the most", x.never(0), -1);
        x.limit(15, 99998);
        x.limit(15, -1);
        check.due("7: no limit any more", x.never(0), -1);
    }

    private static void reserve() {
        SendBest x = Worlds.oneToOne(4, 5);
        check.range("8: reserve(13, 1)", () -> x.reserve(13, 1));
        check.range("8: reserve(-1, 1)", () -> x.reserve(-1, 1));
        check.range("8: reserve(4, 0)", () -> x.reserve(4, 0));
        check.range("8: reserve(4, 11)", () -> x.reserve(4, 11));
        check.due("8: refused ones changed nothing", x.send(0), 4);
        x.reserve(3, 5);
        check.due("8: the rank itself is not below", x.send(0), 4);
        x.reserve(3, 6);
        check.due("8: below the rank", x.send(0), 1);
        x.reserve(4, 10);
        check.due("8: all units are the reserve", x.send(0), 0);
        x.reserve(12, 1);
        check.due("8: against nobody", x.send(0), 4);
        x.reserve(12, 10);
        check.due("8: more than there are", x.send(0), 0);
        x.reserve(0, 10);
        check.due("8: no reserve", x.send(0), 4);
    }

    private static void objectsAreApart() {
        SendBest x = Worlds.oneToOne(2, 5);
        SendBest y = Worlds.oneToOne(2, 5);
        x.reserve(2, 10);
        x.limit(0, 0);
        check.due("objects apart: send(0)", y.send(0), 2);
        check.due("objects apart: fills(0)", x.fills(0), -1);
    }
}
