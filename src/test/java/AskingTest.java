/** Promises 14 to 18: what can be asked. */
public final class AskingTest {
    private static final Check check = new Check("AskingTest");

    public static void main(String[] args) {
        needAt();
        fills();
        sum();
        sumOfLostSeconds();
        alternative();
        alternativeOfAbleOnes();
        alternativeOfTheLeast();
        alternativeInSpiteOfTheReserve();
        never();
        neverOfAFilledNeed();
        check.end();
    }

    private static void needAt() {
        SendBest x = new SendBest();
        x.unit(32);
        x.incident(1);
        x.incident(2);
        x.need(1, 5, 2);
        x.seconds(0, 1, 8);
        check.unknown("14: needAt(2, 0)", () -> x.needAt(2, 0));
        check.unknown("14: needAt(-1, 0)", () -> x.needAt(-1, 0));
        check.unknown("14: needAt(0, 4)", () -> x.needAt(0, 4));
        check.unknown("14: needAt(0, -1)", () -> x.needAt(0, -1));
        check.due("14: needAt(1, 0)", x.needAt(1, 0), 1);
        check.due("14: needAt(1, 1)", x.needAt(1, 1), 5);
        check.due("14: needAt(0, 2), none", x.needAt(0, 2), -1);
        check.due("14: needAt(0, 3)", x.needAt(0, 3), 1);
        x.send(0);
        check.due("14: needAt(0, 2)", x.needAt(0, 2), 0);
        check.due("14: needAt(1, 2)", x.needAt(1, 2), -1);
        x.close(1);
        check.due("14: needAt(1, 3), closed", x.needAt(1, 3), 0);
        check.due("14: needAt(1, 1), closed", x.needAt(1, 1), 5);
    }

    private static void fills() {
        SendBest x = Worlds.table(new int[] {1, 2}, new int[][] {{-1, 4}, {4, -1}, {5, 5}});
        check.unknown("15: fills(3)", () -> x.fills(3));
        check.unknown("15: fills(-1)", () -> x.fills(-1));
        check.due("15: fills(0), not sent", x.fills(0), -1);
        x.send(0);
        check.due("15: fills(0)", x.fills(0), 1);
        check.due("15: fills(1)", x.fills(1), 0);
        check.due("15: fills(2)", x.fills(2), -1);
    }

    private static void sum() {
        SendBest x = Worlds.table(new int[] {3, 4, 9}, new int[][] {{7, -1, -1}, {-1, 11, -1}});
        check.unknown("16: sum(2)", () -> x.sum(2));
        check.unknown("16: sum(-1)", () -> x.sum(-1));
        check.due("16: sum(0)", x.sum(0), 16);
        check.due("16: sum(1)", x.sum(1), 0);
        x.send(0);
        check.due("16: sum(0), sent", x.sum(0), 9);
        check.due("16: sum(1), sent", x.sum(1), 21 + 44);
        x.rank(0, 5);
        x.rank(2, 1);
        check.due("16: sum(0), other ranks", x.sum(0), 1);
        check.due("16: sum(1), other ranks", x.sum(1), 35 + 44);
        x.close(1);
        x.close(2);
        check.due("16: sum(0), closed", x.sum(0), 0);
        check.due("16: sum(1), closed", x.sum(1), 35);
    }

    private static void sumOfLostSeconds() {
        SendBest x = Worlds.oneToOne(2, 3);
        x.send(0);
        x.seconds(0, 0, -1);
        check.due("16: lost seconds count 0", x.sum(1), 30);
        check.due("16: it fills still", x.sum(0), 0);
        x.seconds(0, 0, 500);
        x.limit(0, 1);
        check.due("16: above the limit they count", x.sum(1), 1530);
    }

    private static void alternative() {
        SendBest x = Worlds.table(new int[] {1, 1}, new int[][] {{9, 9}, {8, 8}, {7, 7}, {7, 7}});
        check.unknown("17: alternative(2)", () -> x.alternative(2));
        check.unknown("17: alternative(-1)", () -> x.alternative(-1));
        check.due("17: the lowest of the least", x.alternative(0), 2);
        x.send(0);
        check.due("17: of those that fill none", x.alternative(0), 1);
        x.broken(1, true);
        check.due("17: not a broken one", x.alternative(1), 0);
        x.broken(0, true);
        check.due("17: none", x.alternative(1), -1);
        x.recall(3);
        check.due("17: a recalled one", x.alternative(0), 3);
        x.close(0);
        check.state("17: closed", () -> x.alternative(0));
        check.due("17: the free one", x.alternative(1), 2);
    }

    private static void alternativeOfAbleOnes() {
        SendBest x = new SendBest();
        x.unit(1);
        x.unit(2);
        x.unit(3);
        x.incident(1);
        x.need(0, 1, 1);
        x.seconds(0, 0, 0);
        x.seconds(1, 0, 60);
        x.seconds(2, 0, 50);
        check.due("17: with the skill", x.alternative(0), 2);
        x.limit(1, 49);
        check.due("17: below the limit", x.alternative(0), -1);
        x.limit(1, 60);
        x.seconds(2, 0, -1);
        check.due("17: with seconds", x.alternative(0), 1);
    }

    private static void alternativeOfTheLeast() {
        SendBest x = Worlds.table(new int[] {1}, new int[][] {{99999}});
        check.due("17: 99999 seconds", x.alternative(0), 0);
        for (int u = 1; u < 12; u++) {
            x.unit(1);
            x.seconds(u, 0, 99999 - u);
            check.due("17: one second less", x.alternative(0), u);
        }
        x.seconds(5, 0, 0);
        check.due("17: 0 seconds", x.alternative(0), 5);
        x.seconds(11, 0, 0);
        check.due("17: a higher one with as many", x.alternative(0), 5);
        x.seconds(0, 0, 0);
        check.due("17: a lower one with as many", x.alternative(0), 0);
        x.limit(0, 0);
        check.due("17: at the limit", x.alternative(0), 0);
        x.broken(0, true);
        check.due("17: the next of the least", x.alternative(0), 5);
        x.send(0);
        check.due("17: another than its own", x.alternative(0), 11);
        x.stay(5, true);
        check.due("17: of one whose unit stays", x.alternative(0), 11);
        x.broken(11, true);
        check.due("17: none at the limit", x.alternative(0), -1);
        x.limit(0, 99988);
        check.due("17: none below the limit", x.alternative(0), -1);
        x.limit(0, 99989);
        check.due("17: one at the limit", x.alternative(0), 10);
    }

    private static void alternativeInSpiteOfTheReserve() {
        SendBest x = Worlds.table(new int[] {1}, new int[][] {{4}});
        x.reserve(12, 10);
        check.due("17: all are the reserve, send(0)", x.send(0), 0);
        check.due("17: it could take it over", x.alternative(0), 0);
        check.due("18: it can", x.never(0), -1);
    }

    private static void never() {
        SendBest x = Worlds.table(new int[] {1, 2, 3, 4}, new int[][] {{1, -1, -1, -1}});
        check.range("18: never(-1)", () -> x.never(-1));
        check.range("18: never(least)", () -> x.never(Integer.MIN_VALUE));
        check.due("18: never(0)", x.never(0), 1);
        check.due("18: never(1)", x.never(1), 2);
        check.due("18: never(2)", x.never(2), 3);
        check.due("18: never(3)", x.never(3), -1);
        check.due("18: never(most)", x.never(Integer.MAX_VALUE), -1);
        x.close(2);
        check.due("18: not a closed one", x.never(1), 3);
        x.send(0);
        check.due("18: a unit that is sent can", x.never(0), 1);
        x.limit(0, 0);
        check.due("18: not above the limit", x.never(0), 0);
        x.seconds(0, 0, 0);
        check.due("18: at the limit", x.never(0), 1);
        x.need(0, 1, 1);
        check.due("18: not without the skill", x.never(2), 4);
    }

    private static void neverOfAFilledNeed() {
        SendBest x = Worlds.table(new int[] {1, 1}, new int[][] {{4, -1}, {-1, 4}});
        x.send(0);
        x.seconds(1, 1, -1);
        check.due("18: its unit can't any more", x.never(0), 1);
        check.due("18: it has it still", x.needAt(1, 2), 1);
        x.seconds(0, 1, 9);
        check.due("18: one that fills another can", x.never(0), -1);
        x.broken(0, true);
        check.due("18: a broken one can't", x.never(0), 0);
        check.due("18: nor for the other", x.never(1), 1);
        check.due("18: there are two", x.never(2), -1);
    }
}
