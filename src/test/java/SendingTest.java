/** Promise 10 with the terms: the best plan, the reserve, and when the present plan stays. */
public final class SendingTest {
    private static final Check check = new Check("SendingTest");

    public static void main(String[] args) {
        savedRange();
        leastRanksFirst();
        leastSumAmongSameRanks();
        bestInAllNotOneByOne();
        fillsByALongPath();
        lowestUnitsByNeeds();
        noneIsLast();
        orderOfNeedsUnderReserveRank();
        reserveCountsAllUnits();
        reserveTakesTheLowThatMatterMost();
        reserveBoundNeedsInsteadOfUnbound();
        reserveSparesFewerThanUnbound();
        unboundAloneMayBeTooMany();
        reserveCountsFixedUnits();
        brokenUnitsAreNoReserve();
        savedEnoughOrNot();
        zeroSavedIsOne();
        sameSumStays();
        moreRanksAlwaysChange();
        presentThatIsNoPlanChanges();
        fixedStaysFixed();
        largestNumbers();
        check.end();
    }

    private static void units(String what, SendBest x, String want) {
        String got = Worlds.units(x, want.length());
        check.due("10: " + what + " (" + got + ", due " + want + ")", got.equals(want) ? 1 : 0, 1);
    }

    private static void savedRange() {
        SendBest x = Worlds.oneToOne(1, 1);
        check.range("10: send(-1)", () -> x.send(-1));
        check.range("10: send(1000001)", () -> x.send(1000001));
        check.range("10: send(least)", () -> x.send(Integer.MIN_VALUE));
        check.due("10: refused ones send nothing", x.fills(0), -1);
        check.due("10: send(1000000)", x.send(1000000), 1);
        check.due("10: send(0)", x.send(0), 1);
    }

    private static void leastRanksFirst() {
        SendBest x = Worlds.table(new int[] {4, 5}, new int[][] {{0, 99999}});
        check.due("10: one unit", x.send(0), 1);
        units("the higher rank gets it", x, "x0");
        check.due("10: sum(0)", x.sum(0), 4);
        check.due("10: sum(1)", x.sum(1), 5 * 99999);
        SendBest y = Worlds.table(new int[] {9, 5, 5}, new int[][] {{1, 1, -1}, {1, -1, 1}});
        check.due("10: two units", y.send(0), 2);
        check.due("10: the ranks, not the number", y.sum(0), 5);
    }

    private static void leastSumAmongSameRanks() {
        SendBest x = Worlds.table(new int[] {2, 3}, new int[][] {{10, 10}, {20, 21}});
        x.send(0);
        units("2 x 20 + 3 x 10 is less than 2 x 10 + 3 x 21", x, "10");
        check.due("10: sum(1)", x.sum(1), 70);
        SendBest y = Worlds.table(new int[] {5, 5}, new int[][] {{30, 20}});
        y.send(0);
        units("the need with less seconds", y, "x0");
    }

    private static void bestInAllNotOneByOne() {
        SendBest x = Worlds.table(new int[] {1, 1, 1}, new int[][] {{1, 2, 9}, {2, 4, 12}, {3, 9, 30}});
        x.send(0);
        check.due("10: the least in all", x.sum(1), 3 + 4 + 9);
        units("the least in all", x, "210");
    }

    /** Need d can have unit d - 1 soon and unit d late; only when all have the late one, all have one. */
    private static void fillsByALongPath() {
        SendBest x = new SendBest();
        x.incident(1);
        x.incident(1);
        for (int d = 0; d < 10; d++) {
            x.need(d % 2, d, 1);
            x.unit(3 << d);
            x.seconds(d, d % 2, 60);
            x.seconds(d, 1 - d % 2, 10);
        }
        check.due("10: all needs", x.send(0), 10);
        units("a chain", x, "0123456789");
        x.broken(0, true);
        check.due("10: all but one", x.send(0), 9);
        units("a shorter chain", x, "x123456789");
        x.broken(5, true);
        check.due("10: two chains", x.send(0), 8);
        units("the sooner ones of the first chain", x, "xx12346789");
    }

    private static void lowestUnitsByNeeds() {
        int[][] same = new int[12][3];
        SendBest x = Worlds.table(new int[] {3, 9, 3}, same);
        x.send(0);
        units("the lowest units, by needs", x, "012");
        SendBest y = Worlds.table(new int[] {2, 2, 2}, new int[][] {{-1, 5, 5}, {5, 5, 5}, {5, 5, 5}});
        y.send(0);
        units("the lowest for the first need that can be", y, "102");
    }

    private static void noneIsLast() {
        SendBest x = Worlds.table(new int[] {3, 3, 3}, new int[][] {{7, 7, 7}, {-1, 7, 7}});
        x.send(0);
        units("none comes last", x, "01x");
        SendBest y = Worlds.table(new int[] {3, 3}, new int[][] {{-1, -1}, {7, 7}});
        y.send(0);
        units("a high unit before none", y, "1x");
    }

    private static void orderOfNeedsUnderReserveRank() {
        int[][] same = {{5, 5}, {5, 5}};
        SendBest x = Worlds.table(new int[] {2, 8}, same);
        x.send(0);
        units("plain order at first", x, "01");
        SendBest y = Worlds.table(new int[] {2, 8}, same);
        y.reserve(0, 8);
        y.send(0);
        units("those of the reserve's rank first", y, "10");
        SendBest z = Worlds.table(new int[] {2, 8}, same);
        z.reserve(0, 9);
        z.send(0);
        units("both below it", z, "01");
    }

    private static void reserveCountsAllUnits() {
        SendBest x = Worlds.table(new int[] {9, 1, 1}, new int[][] {{1, 1, 1}, {1, 1, 1}, {1, 1, 1}, {-1, -1, -1}});
        x.reserve(2, 5);
        check.due("10: 4 units less 2", x.send(0), 2);
        units("the high one counts", x, "01x");
        x.reserve(3, 5);
        check.due("10: 4 units less 3", x.send(0), 1);
        x.reserve(12, 5);
        check.due("10: the high one gets one always", x.send(0), 1);
        units("the high one alone", x, "0xx");
        x.reserve(1, 5);
        check.due("10: 4 units less 1", x.send(0), 3);
    }

    private static void reserveTakesTheLowThatMatterMost() {
        SendBest x = Worlds.table(new int[] {2, 4, 3}, new int[][] {{1, 90, 1}, {1, 95, 1}, {1, 1, 1}});
        x.reserve(1, 10);
        check.due("10: 3 units less 1", x.send(0), 2);
        check.due("10: the lowest rank has none", x.sum(0), 2);
        units("the lowest rank has none", x, "x20");
        x.reserve(2, 10);
        x.send(0);
        units("the highest rank alone", x, "x2x");
    }

    private static void reserveBoundNeedsInsteadOfUnbound() {
        // need 0 (rank 5) and need 1 (rank 4): with a reserve's rank of 5, two units less 1
        SendBest x = Worlds.table(new int[] {5, 4}, new int[][] {{3, 3}, {3, 3}});
        x.reserve(1, 5);
        x.send(0);
        units("the bound need gets none", x, "0x");
        SendBest y = Worlds.table(new int[] {5, 5, 4, 4}, new int[][] {{3, 3, -1, -1}, {-1, -1, 3, 3}, {-1, -1, 3, 3}});
        y.reserve(1, 5);
        y.send(0);
        units("a bound need instead of one that none can fill", y, "0x1x");
        SendBest z = Worlds.table(new int[] {5, 5, 4, 4}, new int[][] {{3, 3, -1, -1}, {3, 3, 3, 3}, {-1, -1, 3, 3}});
        z.reserve(2, 5);
        z.send(0);
        units("more unbound ones than are spare", z, "01xx");
    }

    private static void reserveSparesFewerThanUnbound() {
        // three needs of rank 5 that one unit alone can fill, and a bound one that two others can
        int[][] seconds = {{3, 3, 3, -1}, {-1, -1, -1, 4}, {-1, -1, -1, 2}, {-1, -1, -1, -1}};
        SendBest x = Worlds.table(new int[] {5, 5, 5, 4}, seconds);
        x.reserve(2, 5);
        check.due("10: two units spared", x.send(0), 2);
        units("the bound one too", x, "0xx2");
        x.reserve(3, 5);
        check.due("10: one unit spared", x.send(0), 1);
        units("not the bound one", x, "0xxx");
    }

    private static void unboundAloneMayBeTooMany() {
        SendBest x = Worlds.table(new int[] {9, 9}, new int[][] {{5, 5}, {5, 5}, {-1, -1}});
        x.reserve(3, 9);
        check.due("10: both in spite of the reserve", x.send(0), 2);
        x.seconds(2, 0, 1);
        x.send(37);
        units("a plan still, so it stays", x, "01");
        x.send(36);
        units("36 saved of 36", x, "20");
    }

    private static void reserveCountsFixedUnits() {
        SendBest x = Worlds.table(new int[] {2, 2, 2}, new int[][] {{1, 9, 9}, {9, 1, 9}, {9, 9, 1}});
        x.send(0);
        x.stay(2, true);
        x.reserve(1, 10);
        check.due("10: a fixed one and one more", x.send(0), 2);
        units("the fixed one stays", x, "0x2");
        x.reserve(2, 10);
        check.due("10: the fixed one alone", x.send(0), 1);
        x.reserve(3, 10);
        check.due("10: the fixed one in spite of the reserve", x.send(0), 1);
        units("the fixed one alone", x, "xx2");
    }

    private static void brokenUnitsAreNoReserve() {
        SendBest x = Worlds.oneToOne(3, 1);
        x.reserve(1, 10);
        x.broken(2, true);
        check.due("10: 2 units less 1", x.send(0), 1);
        x.broken(2, false);
        check.due("10: 3 units less 1", x.send(0), 2);
    }

    private static SendBest twoUnitsOneNeed(int first, int second, int rank) {
        SendBest x = Worlds.table(new int[] {rank}, new int[][] {{first}, {-1}});
        x.send(0);
        x.seconds(1, 0, second);
        return x;
    }

    private static void savedEnoughOrNot() {
        SendBest x = twoUnitsOneNeed(100, 90, 3);
        x.send(31);
        units("30 saved of 31", x, "0");
        x.send(30);
        units("30 saved of 30", x, "1");
        SendBest y = twoUnitsOneNeed(99999, 0, 9);
        y.send(900000);
        units("899,991 saved of 900,000", y, "0");
        y.send(899991);
        units("899,991 saved of as many", y, "1");
    }

    private static void zeroSavedIsOne() {
        SendBest x = twoUnitsOneNeed(100, 99, 1);
        x.send(2);
        units("1 saved of 2", x, "0");
        x.send(0);
        units("1 saved of 0", x, "1");
        SendBest y = twoUnitsOneNeed(100, 99, 1);
        y.send(1);
        units("1 saved of 1", y, "1");
    }

    private static void sameSumStays() {
        SendBest x = Worlds.table(new int[] {1, 1}, new int[][] {{-1, 5}, {5, -1}});
        x.send(0);
        x.seconds(0, 0, 5);
        x.seconds(1, 1, 5);
        x.send(0);
        units("the same sum", x, "10");
        x.send(1);
        units("the same sum still", x, "10");
        x.recall(0);
        x.recall(1);
        x.send(0);
        units("the lowest units from anew", x, "01");
        SendBest y = Worlds.table(new int[] {4}, new int[][] {{-1}, {5}});
        y.send(0);
        y.seconds(0, 0, 5);
        y.send(0);
        units("the higher unit stays", y, "1");
    }

    private static void moreRanksAlwaysChange() {
        SendBest x = Worlds.table(new int[] {9, 1}, new int[][] {{0, 0}, {-1, -1}});
        x.send(0);
        x.seconds(1, 0, 99999);
        check.due("10: one rank more, whatever is saved", x.send(1000000), 2);
        units("one rank more", x, "10");
        SendBest y = Worlds.table(new int[] {2, 1}, new int[][] {{7, 7}});
        y.send(0);
        y.rank(1, 3);
        y.send(1000000);
        units("ranks as they are now", y, "x0");
    }

    private static void presentThatIsNoPlanChanges() {
        SendBest x = twoUnitsOneNeed(100, 100, 1);
        x.limit(0, 99);
        check.due("10: above the limit now", x.send(1000000), 0);
        units("above the limit now", x, "x");
        SendBest y = twoUnitsOneNeed(100, 200, 1);
        y.seconds(0, 0, -1);
        y.send(1000000);
        units("no seconds now", y, "1");
        SendBest z = Worlds.table(new int[] {2, 2}, new int[][] {{1, 5}, {5, 1}});
        z.send(0);
        z.reserve(1, 10);
        check.due("10: too many for the reserve now", z.send(1000000), 1);
        units("too many for the reserve now", z, "0x");
        z.reserve(1, 3);
        z.rank(1, 3);
        z.send(1000000);
        units("the high one instead", z, "x1");
    }

    private static void fixedStaysFixed() {
        SendBest x = Worlds.table(new int[] {1, 9}, new int[][] {{5, 5}, {-1, -1}});
        x.rank(1, 1);
        x.send(0);
        units("the first need at first", x, "0x");
        x.stay(0, true);
        x.rank(1, 9);
        check.due("10: a fixed one", x.send(0), 1);
        units("the fixed one stays for the lower rank", x, "0x");
        x.seconds(1, 1, 3);
        check.due("10: the other need", x.send(0), 2);
        units("both", x, "01");
        x.limit(0, 4);
        check.due("10: it can't any more", x.send(0), 1);
        units("not fixed when it can't", x, "x1");
        x.limit(0, -1);
        x.send(0);
        units("sent again", x, "01");
        x.stay(0, true);
    }

    private static void largestNumbers() {
        SendBest x = new SendBest();
        x.incident(9);
        x.need(0, 15, 10);
        for (int u = 0; u < 12; u++) {
            x.unit(65535);
            x.seconds(u, 0, 99999);
        }
        check.due("10: ten needs", x.send(0), 10);
        check.due("10: the largest sum", x.sum(1), 8999910);
        units("ten needs, twelve units", x, "0123456789");
        check.due("10: never(0)", x.never(0), -1);
        check.due("10: alternative(9)", x.alternative(9), 10);
        x.seconds(11, 0, 0);
        x.send(899991);
        units("a unit much nearer, the lowest before it", x, "012345678b");
        check.due("10: the smaller sum", x.sum(1), 8999910 - 899991);
    }
}
