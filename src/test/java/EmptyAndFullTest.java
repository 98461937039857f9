/** Nothing there yet (or any more), and no room left. */
public final class EmptyAndFullTest {
    private static final Check check = new Check("EmptyAndFullTest");

    public static void main(String[] args) {
        nothing();
        setBeforeThereIsAny();
        unitsAlone();
        incidentsAlone();
        noNeeds();
        needsWithoutUnits();
        allBroken();
        allClosed();
        allRecalled();
        allUsed();
        nothingMakesRoom();
        largestSums();
        tenStay();
        check.end();
    }

    private static void answers(String when, SendBest x, int filled, int ranks, int seconds) {
        check.due(when + ": send(0)", x.send(0), filled);
        check.due(when + ": send(1000000)", x.send(1_000_000), filled);
        check.due(when + ": sum(0)", x.sum(0), ranks);
        check.due(when + ": sum(1)", x.sum(1), seconds);
    }

    private static void nothing() {
        SendBest x = new SendBest();
        answers("1: nothing", x, 0, 0, 0);
        check.due("1: nothing: never(0)", x.never(0), -1);
        check.unknown("1: nothing: fills(0)", () -> x.fills(0));
        check.unknown("1: nothing: needAt(0, 0)", () -> x.needAt(0, 0));
        check.unknown("1: nothing: alternative(0)", () -> x.alternative(0));
        check.unknown("1: nothing: need(0, 0, 0)", () -> x.need(0, 0, 0));
        check.unknown("1: nothing: rank(0, 1)", () -> x.rank(0, 1));
        check.unknown("1: nothing: close(0)", () -> x.close(0));
        check.unknown("1: nothing: broken(0, false)", () -> x.broken(0, false));
        check.unknown("1: nothing: stay(0, false)", () -> x.stay(0, false));
        check.unknown("1: nothing: recall(0)", () -> x.recall(0));
        check.unknown("1: nothing: seconds(0, 0, -1)", () -> x.seconds(0, 0, -1));
        check.due("1: the first unit", x.unit(0), 0);
        check.due("1: the first incident", x.incident(5), 0);
        check.due("1: the first need", x.need(0, 0, 1), 1);
    }

    private static void setBeforeThereIsAny() {
        SendBest x = new SendBest();
        x.limit(4, 20);
        x.reserve(1, 6);
        x.send(0);
        x.unit(1 << 4);
        x.unit(1 << 4);
        x.incident(5);
        x.need(0, 4, 2);
        x.seconds(0, 0, 20);
        check.due("7 and 8: one unit less the reserve", x.send(0), 1);
        x.seconds(1, 0, 21);
        check.due("7: above the limit from before", x.alternative(1), -1);
        x.seconds(1, 0, 20);
        check.due("7: at the limit from before", x.alternative(1), 1);
        check.due("8: the reserve from before", x.send(0), 1);
        x.rank(0, 6);
        check.due("8: its rank from before", x.send(0), 2);
    }

    private static void unitsAlone() {
        SendBest x = new SendBest();
        x.unit(65_535);
        answers("2: units alone", x, 0, 0, 0);
        check.due("2: units alone: never(0)", x.never(0), -1);
        check.due("2: units alone: fills(0)", x.fills(0), -1);
        check.unknown("6: units alone: seconds(0, 0, 1)", () -> x.seconds(0, 0, 1));
        check.state("11: units alone: stay(0, true)", () -> x.stay(0, true));
        check.state("12: units alone: recall(0)", () -> x.recall(0));
        check.state("9: units alone: broken(0, false)", () -> x.broken(0, false));
        x.broken(0, true);
        x.broken(0, false);
        x.reserve(12, 10);
        answers("2: units alone and a reserve", x, 0, 0, 0);
    }

    private static void incidentsAlone() {
        SendBest x = new SendBest();
        x.incident(9);
        answers("3: incidents alone", x, 0, 0, 0);
        check.due("3: incidents alone: never(0)", x.never(0), -1);
        check.unknown("6: incidents alone: seconds(0, 0, 1)", () -> x.seconds(0, 0, 1));
        check.due("5: incidents alone: need(0, 0, 0)", x.need(0, 0, 0), 0);
        check.unknown("14: incidents alone: needAt(0, 0)", () -> x.needAt(0, 0));
        x.close(0);
        check.state("13: incidents alone: close(0) again", () -> x.close(0));
    }

    private static void noNeeds() {
        SendBest x = new SendBest();
        x.unit(65_535);
        x.incident(9);
        x.seconds(0, 0, 0);
        answers("5: no needs", x, 0, 0, 0);
        check.due("5: no needs: fills(0)", x.fills(0), -1);
        check.due("5: no needs: never(0)", x.never(0), -1);
        check.unknown("17: no needs: alternative(0)", () -> x.alternative(0));
        x.close(0);
        answers("13: no needs and closed", x, 0, 0, 0);
    }

    private static void needsWithoutUnits() {
        SendBest x = new SendBest();
        x.incident(9);
        x.incident(1);
        x.need(0, 0, 2);
        x.need(1, 15, 1);
        answers("5: no units", x, 0, 19, 0);
        check.due("5: no units: needAt(2, 2)", x.needAt(2, 2), -1);
        check.due("17: no units: alternative(0)", x.alternative(0), -1);
        check.due("18: no units: never(0)", x.never(0), 0);
        check.due("18: no units: never(2)", x.never(2), 2);
        check.due("18: no units: never(3)", x.never(3), -1);
        x.reserve(12, 10);
        answers("8: no units but a reserve", x, 0, 19, 0);
        x.reserve(12, 1);
        answers("8: no units but a reserve against nobody", x, 0, 19, 0);
    }

    private static void allBroken() {
        SendBest x = Worlds.oneToOne(3, 2);
        x.send(0);
        for (int u = 0; u < 3; u++) {
            x.broken(u, true);
        }
        answers("9: all broken", x, 0, 6, 0);
        check.due("17: all broken: alternative(1)", x.alternative(1), -1);
        check.due("18: all broken: never(2)", x.never(2), 2);
        x.broken(1, false);
        answers("9: all but one broken", x, 1, 4, 20);
    }

    private static void allClosed() {
        SendBest x = Worlds.oneToOne(3, 2);
        x.send(0);
        for (int i = 0; i < 3; i++) {
            x.close(i);
        }
        answers("13: all closed", x, 0, 0, 0);
        check.due("18: all closed: never(0)", x.never(0), -1);
        check.due("15: all closed: fills(2)", x.fills(2), -1);
        x.seconds(0, 0, 5);
        check.state("17: all closed: alternative(0)", () -> x.alternative(0));
        check.state("5: all closed: need(0, 0, 0)", () -> x.need(0, 0, 0));
        check.due("3: the next incident", x.incident(7), 3);
        check.due("5: its need", x.need(3, 0, 1), 4);
        x.seconds(2, 3, 5);
        answers("13: all closed but a new one", x, 1, 0, 35);
    }

    private static void allRecalled() {
        SendBest x = Worlds.oneToOne(3, 2);
        x.send(0);
        for (int u = 0; u < 3; u++) {
            x.recall(u);
        }
        check.due("12: all recalled: sum(0)", x.sum(0), 6);
        check.due("12: all recalled: sum(1)", x.sum(1), 0);
        answers("12: sent again", x, 3, 0, 60);
    }

    /** 12 units, 6 incidents of rank 9 and 10 needs of all skills, and 99999 seconds everywhere. */
    private static SendBest allRoom() {
        SendBest x = new SendBest();
        for (int i = 0; i < 6; i++) {
            check.due("3: incident", x.incident(9), i);
        }
        for (int d = 0; d < 10; d++) {
            check.due("5: need", x.need(d % 6, 15 - d, 1), d + 1);
        }
        for (int u = 0; u < 12; u++) {
            check.due("2: unit", x.unit(65_535), u);
            for (int i = 0; i < 6; i++) {
                x.seconds(u, i, 99_999);
            }
        }
        return x;
    }

    private static void noRoomAtAll(String when, SendBest x) {
        check.noRoom("2: the 13th unit, " + when, () -> x.unit(0));
        check.noRoom("3: the 7th incident, " + when, () -> x.incident(1));
        check.noRoom("5: the 11th need, " + when, () -> x.need(0, 0, 1));
        check.due("5: no need more, " + when, x.need(0, 0, 0), 10);
    }

    private static void allUsed() {
        SendBest x = allRoom();
        noRoomAtAll("none sent", x);
        check.due("10: all room used: send(0)", x.send(0), 10);
        noRoomAtAll("all sent", x);
        for (int d = 0; d < 10; d++) {
            check.due("14: needAt(" + d + ", 0)", x.needAt(d, 0), d % 6);
            check.due("14: needAt(" + d + ", 1)", x.needAt(d, 1), 15 - d);
            check.due("14: needAt(" + d + ", 2)", x.needAt(d, 2), d);
            check.due("15: fills(" + d + ")", x.fills(d), d);
            check.due("17: alternative(" + d + ")", x.alternative(d), 10);
        }
        check.due("15: fills(10)", x.fills(10), -1);
        check.due("15: fills(11)", x.fills(11), -1);
        check.unknown("15: fills(12)", () -> x.fills(12));
        check.unknown("14: needAt(10, 0)", () -> x.needAt(10, 0));
        check.unknown("13: close(6)", () -> x.close(6));
    }

    private static void nothingMakesRoom() {
        SendBest x = allRoom();
        x.send(0);
        x.recall(0);
        noRoomAtAll("one recalled", x);
        for (int u = 0; u < 12; u++) {
            x.broken(u, true);
        }
        noRoomAtAll("all broken", x);
        for (int i = 1; i < 6; i++) {
            x.close(i);
        }
        noRoomAtAll("all but one closed", x);
        x.close(0);
        check.noRoom("2: the 13th unit, all closed", () -> x.unit(0));
        check.noRoom("3: the 7th incident, all closed", () -> x.incident(1));
        check.state("5: the 11th need, all closed", () -> x.need(0, 0, 1));
    }

    private static void largestSums() {
        SendBest x = allRoom();
        check.due("16: the largest sum(0)", x.sum(0), 90);
        x.send(0);
        check.due("16: the largest sum(1)", x.sum(1), 8_999_910);
        check.due("16: sum(0) then", x.sum(0), 0);
        for (int i = 0; i < 6; i++) {
            x.rank(i, 1);
        }
        check.due("16: sum(1) at rank 1", x.sum(1), 999_990);
    }

    private static void tenStay() {
        SendBest x = allRoom();
        x.send(0);
        for (int u = 0; u < 10; u++) {
            x.stay(u, true);
        }
        for (int i = 0; i < 6; i++) {
            x.seconds(10, i, 0);
            x.seconds(11, i, 0);
        }
        x.reserve(12, 10);
        answers("11: ten stay", x, 10, 0, 8_999_910);
        check.due("17: the nearer one is free still", x.alternative(9), 10);
        x.broken(10, true);
        x.broken(11, true);
        x.reserve(12, 1);
        answers("11: ten stay, the others are broken", x, 10, 0, 8_999_910);
    }
}
