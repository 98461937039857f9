/** Promises 9 and 11 to 13: broken units, units that stay, recalls, closed incidents. */
public final class ChangingTest {
    private static final Check check = new Check("ChangingTest");

    public static void main(String[] args) {
        broken();
        brokenEndsStay();
        brokenKeepsTheRest();
        stay();
        stayEndsWithItsNeed();
        recall();
        close();
        closeEndsStay();
        closeFreesAll();
        check.end();
    }

    private static void broken() {
        SendBest x = Worlds.oneToOne(2, 3);
        x.send(0);
        check.unknown("9: broken(2, true)", () -> x.broken(2, true));
        check.unknown("9: broken(-1, false)", () -> x.broken(-1, false));
        check.state("9: broken(0, false)", () -> x.broken(0, false));
        x.broken(0, true);
        check.state("9: broken(0, true)", () -> x.broken(0, true));
        check.due("9: fills(0)", x.fills(0), -1);
        check.due("9: needAt(0, 2)", x.needAt(0, 2), -1);
        check.due("9: fills(1)", x.fills(1), 1);
        check.due("9: sum(0)", x.sum(0), 3);
        check.due("9: never(0)", x.never(0), 0);
        check.due("9: alternative(0)", x.alternative(0), -1);
        check.due("9: send(0)", x.send(0), 1);
        x.broken(0, false);
        check.due("9: well again, but not sent", x.fills(0), -1);
        check.due("9: never(0), well again", x.never(0), -1);
        check.due("9: send(0), well again", x.send(0), 2);
    }

    private static void brokenEndsStay() {
        SendBest x = Worlds.oneToOne(1, 3);
        x.send(0);
        x.stay(0, true);
        x.broken(0, true);
        x.broken(0, false);
        check.state("9: stay(0, false)", () -> x.stay(0, false));
        x.send(0);
        check.state("9: stay(0, false), sent anew", () -> x.stay(0, false));
        x.stay(0, true);
    }

    private static void brokenKeepsTheRest() {
        SendBest x = Worlds.oneToOne(2, 3);
        x.broken(0, true);
        x.seconds(0, 0, 77);
        x.seconds(0, 1, 5);
        check.due("9: a broken one is not sent", x.send(0), 1);
        check.state("11: a broken one fills none", () -> x.stay(0, true));
        check.state("12: a broken one fills none", () -> x.recall(0));
        x.broken(0, false);
        check.due("9: seconds told while it was broken", x.alternative(1), 0);
        x.send(0);
        check.due("9: sum(1)", x.sum(1), 3 * 77 + 30);
        x.broken(0, true);
        x.broken(0, false);
        check.due("9: the same again", x.alternative(0), 0);
    }

    private static void stay() {
        SendBest x = Worlds.table(new int[] {1}, new int[][] {{9}, {-1}});
        check.unknown("11: stay(2, true)", () -> x.stay(2, true));
        check.unknown("11: stay(-1, true)", () -> x.stay(-1, true));
        check.state("11: stay(0, true), not sent", () -> x.stay(0, true));
        check.state("11: stay(0, false), not sent", () -> x.stay(0, false));
        x.send(0);
        x.seconds(1, 0, 1);
        check.state("11: stay(0, false)", () -> x.stay(0, false));
        x.stay(0, true);
        check.state("11: stay(0, true) again", () -> x.stay(0, true));
        x.send(0);
        check.due("11: it stays", x.fills(0), 0);
        check.state("11: stay(0, true) after send", () -> x.stay(0, true));
        x.stay(0, false);
        x.send(0);
        check.due("11: it does not stay any more", x.fills(0), -1);
        check.due("11: the other one instead", x.fills(1), 0);
    }

    private static void stayEndsWithItsNeed() {
        SendBest x = Worlds.table(new int[] {2, 1}, new int[][] {{5, 5}});
        x.send(0);
        x.stay(0, true);
        x.seconds(0, 0, -1);
        check.due("11: stay(0, ..) while it can't", x.fills(0), 0);
        x.send(0);
        check.due("11: sent to the other need", x.fills(0), 1);
        check.state("11: it was not told to stay there", () -> x.stay(0, false));
        x.seconds(0, 0, 5);
        x.send(0);
        check.due("11: back to the first need", x.fills(0), 0);
    }

    private static void recall() {
        SendBest x = Worlds.oneToOne(2, 4);
        check.unknown("12: recall(2)", () -> x.recall(2));
        check.unknown("12: recall(-1)", () -> x.recall(-1));
        check.state("12: recall(0), not sent", () -> x.recall(0));
        x.send(0);
        x.stay(0, true);
        x.recall(0);
        check.due("12: fills(0)", x.fills(0), -1);
        check.due("12: needAt(0, 2)", x.needAt(0, 2), -1);
        check.due("12: fills(1)", x.fills(1), 1);
        check.due("12: sum(0)", x.sum(0), 4);
        check.due("12: alternative(0)", x.alternative(0), 0);
        check.state("12: recall(0) again", () -> x.recall(0));
        check.due("12: send(0)", x.send(0), 2);
        check.state("12: it does not stay", () -> x.stay(0, false));
    }

    private static void close() {
        SendBest x = Worlds.table(new int[] {5, 7}, new int[][] {{1, 1}, {-1, 3}});
        x.need(0, 0, 1);
        x.need(1, 3, 1);
        x.send(0);
        check.unknown("13: close(2)", () -> x.close(2));
        check.unknown("13: close(-1)", () -> x.close(-1));
        check.due("13: fills(0)", x.fills(0), 0);
        x.close(0);
        check.state("13: close(0) again", () -> x.close(0));
        check.due("13: its unit is free", x.fills(0), -1);
        check.due("13: the other's is not", x.fills(1), 1);
        check.due("13: needAt(0, 3)", x.needAt(0, 3), 0);
        check.due("13: needAt(2, 3)", x.needAt(2, 3), 0);
        check.due("13: needAt(1, 3)", x.needAt(1, 3), 1);
        check.due("13: needAt(0, 2)", x.needAt(0, 2), -1);
        check.due("13: needAt(0, 0)", x.needAt(0, 0), 0);
        check.due("13: sum(0)", x.sum(0), 7);
        check.due("13: sum(1)", x.sum(1), 21);
        check.due("13: never(0)", x.never(0), 3);
        check.due("13: send(0)", x.send(0), 1);
        check.due("13: the free unit elsewhere", x.needAt(1, 2), 0);
        check.due("13: closed needs get none", x.needAt(0, 2), -1);
    }

    private static void closeEndsStay() {
        SendBest x = Worlds.table(new int[] {5, 4}, new int[][] {{1, 1}});
        x.send(0);
        x.stay(0, true);
        x.close(0);
        check.state("13: stay(0, false)", () -> x.stay(0, false));
        x.send(0);
        check.due("13: sent to the other", x.fills(0), 1);
        check.state("13: it does not stay", () -> x.stay(0, false));
    }

    private static void closeFreesAll() {
        SendBest x = new SendBest();
        x.incident(3);
        x.need(0, 0, 9);
        x.incident(9);
        x.need(1, 0, 1);
        for (int u = 0; u < 12; u++) {
            x.unit(1);
            x.seconds(u, 0, 1);
            x.seconds(u, 1, 1);
        }
        x.send(0);
        x.stay(0, true);
        x.stay(8, true);
        x.stay(9, true);
        x.close(0);
        for (int u = 0; u < 9; u++) {
            check.due("13: fills(" + u + ")", x.fills(u), -1);
            check.due("13: needAt(" + u + ", 2)", x.needAt(u, 2), -1);
        }
        check.due("13: the other's unit", x.fills(9), 9);
        check.state("13: it stays", () -> x.stay(9, true));
        check.due("13: send(0)", x.send(0), 1);
        check.due("13: sum(1)", x.sum(1), 9);
        x.seconds(9, 0, 0);
        check.state("13: no needs more", () -> x.need(0, 0, 0));
        check.state("13: no other rank", () -> x.rank(0, 1));
    }
}
