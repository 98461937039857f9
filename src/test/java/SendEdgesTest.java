/**
 * Promise 10 at its edges: the reserve, as much saved as is told and one second less, ties, a present plan
 * that is one no longer, units that stay.
 */
public final class SendEdgesTest {
    private static final Check check = new Check("SendEdgesTest");
    private static final int MOST_SAVED = 1_000_000;

    public static void main(String[] args) {
        reserveOfBoundOnes();
        reserveOfBothKinds();
        reserveWithFixedOnes();
        fixedOverTheReserve();
        reserveAndTenNeeds();
        rankAtTheReserve();
        savedAtEachRank();
        savedByTwoTogether();
        savedTheMost();
        savedInSpiteOfFixed();
        zeroSaved();
        moreRanksTakeAll();
        sameSumStays();
        tiesOfEqualUnits();
        tiesByNeedsNotBySums();
        tiesOfNone();
        everyUnitBeforeNone();
        tiesInTheReservesOrder();
        tieOfTheLastNeed();
        noPlanBySeconds();
        noPlanByLimit();
        noPlanByReserve();
        noPlanByReserveRank();
        noPlanByRank();
        noPlanByBrokenOnes();
        noPlanByOneWhoStayed();
        noPlanChangesAll();
        aBrokenUnitLeavesAPlan();
        fixedAtTheLimit();
        fixedIsForNothingElse();
        check.end();
    }

    private static void units(String what, SendBest x, String want) {
        String got = Worlds.units(x, want.length());
        check.due("10: " + what + " (" + got + ", due " + want + ")", got.equals(want) ? 1 : 0, 1);
    }

    private static void sent(String what, SendBest x, int saved, String want) {
        int filled = 0;
        for (int d = 0; d < want.length(); d++) {
            filled += want.charAt(d) == 'x' ? 0 : 1;
        }
        check.due("10: " + what + ": send(" + saved + ")", x.send(saved), filled);
        units(what, x, want);
    }

    private static SendBest table(int[] ranks, int[]... seconds) {
        return Worlds.table(ranks, seconds);
    }

    private static int[] row(int... numbers) {
        return numbers;
    }

    // ---- the reserve

    /** So many units, all able to fill all needs, of ranks 7 and 6, which number so many. */
    private static SendBest highAndLow(int units, int high, int low) {
        SendBest x = new SendBest();
        x.incident(6);
        x.incident(7);
        x.need(0, 0, low);
        x.need(1, 0, high);
        for (int u = 0; u < units; u++) {
            x.unit(1);
            x.seconds(u, 0, 10 + u);
            x.seconds(u, 1, 20 + u);
        }
        return x;
    }

    private static void reserveOfBoundOnes() {
        for (int units = 0; units <= 12; units++) {
            for (int broken = 0; broken <= Math.min(2, units); broken++) {
                SendBest x = highAndLow(units, 0, 10);
                for (int u = 0; u < broken; u++) {
                    x.broken(u, true);
                }
                for (int reserve = 0; reserve <= 12; reserve++) {
                    x.reserve(reserve, 7);
                    int due = Math.max(0, Math.min(10, units - broken - reserve));
                    check.due("10: " + units + " units, " + broken + " broken, reserve " + reserve, x.send(0), due);
                }
            }
        }
    }

    private static void reserveOfBothKinds() {
        for (int high = 0; high <= 5; high++) {
            for (int low = 0; low <= 5; low++) {
                for (int reserve = 0; reserve <= 12; reserve++) {
                    SendBest x = highAndLow(12, high, low);
                    x.reserve(reserve, 7);
                    int lowDue = Math.max(0, Math.min(low, 12 - reserve - high));
                    String what = "10: " + high + " high, " + low + " low, reserve " + reserve;
                    check.due(what, x.send(0), high + lowDue);
                    check.due(what + ", sum(0)", x.sum(0), 6 * (low - lowDue));
                }
            }
        }
    }

    private static void reserveWithFixedOnes() {
        for (int fixed = 0; fixed <= 4; fixed++) {
            for (int reserve = 0; reserve <= 6; reserve++) {
                SendBest x = highAndLow(6, 0, 5);
                x.send(0);
                for (int d = 0; d < fixed; d++) {
                    x.stay(x.needAt(4 - d, 2), true);
                }
                x.reserve(reserve, 7);
                int due = fixed + Math.max(0, Math.min(5 - fixed, 6 - reserve - fixed));
                check.due("10: " + fixed + " fixed, reserve " + reserve, x.send(0), due);
                for (int d = 0; d < fixed; d++) {
                    check.due("10: the fixed one of need " + (4 - d), x.needAt(4 - d, 2), 4 - d);
                }
            }
        }
    }

    private static void fixedOverTheReserve() {
        SendBest x = table(row(2, 2, 8), row(1, 9, 9), row(9, 1, 9), row(9, 9, 1));
        x.send(0);
        x.stay(0, true);
        x.stay(1, true);
        x.reserve(3, 8);
        sent("fixed ones are above the reserve, and one of its rank", x, 0, "012");
        x.rank(2, 7);
        sent("fixed ones are above the reserve, and none below its rank", x, 0, "01x");
    }

    /** Nine needs of the reserve's rank that one unit alone can fill, and one below it. */
    private static void reserveAndTenNeeds() {
        SendBest x = highAndLow(0, 9, 1);
        for (int u = 0; u < 12; u++) {
            x.unit(1);
        }
        x.seconds(3, 1, 5);
        x.seconds(7, 0, 5);
        x.reserve(10, 7);
        sent("12 less 10", x, 0, "73xxxxxxxx");
        x.reserve(11, 7);
        sent("12 less 11", x, 0, "x3xxxxxxxx");
    }

    private static void rankAtTheReserve() {
        for (int against = 2; against <= 9; against++) {
            SendBest x = table(row(against, against - 1), row(5, 5), row(5, 5));
            x.reserve(1, against);
            sent("rank " + against + " against " + against, x, 0, "0x");
            x.reserve(2, against);
            sent("rank " + against + " against " + against + ", all are the reserve", x, 0, "0x");
            x.reserve(2, against - 1);
            sent("both against " + (against - 1), x, 0, "01");
            x.reserve(2, against + 1);
            sent("both against " + (against + 1), x, 0, "xx");
        }
    }

    // ---- saved

    /** Unit 0 fills the only need, and unit 1 comes nearer since. */
    private static SendBest nearer(int rank, int first, int second) {
        SendBest x = table(row(rank), row(first), row(-1));
        x.send(0);
        x.seconds(1, 0, second);
        return x;
    }

    private static void savedAtEachRank() {
        for (int rank = 1; rank <= 9; rank++) {
            for (int less : row(1, 2, 999, 99_998, 99_999)) {
                int saves = rank * less;
                sent("saves " + saves + ", one second less than told", nearer(rank, 99_999, 99_999 - less), saves + 1, "0");
                sent("saves " + saves + ", just as told", nearer(rank, 99_999, 99_999 - less), saves, "1");
                sent("saves " + saves + ", more than told", nearer(rank, 99_999, 99_999 - less), saves - 1, "1");
            }
        }
    }

    private static void savedByTwoTogether() {
        for (int told = 10; told <= 11; told++) {
            SendBest x = table(row(2, 3), row(50, -1), row(-1, 50), row(-1, -1), row(-1, -1));
            x.send(0);
            x.seconds(2, 0, 48);
            x.seconds(3, 1, 48);
            sent("4 and 6 saved of " + told, x, told, told == 10 ? "23" : "01");
        }
        for (int told = 3; told <= 4; told++) {
            SendBest x = table(row(1, 1), row(10, -1), row(-1, 10), row(-1, -1));
            x.send(0);
            x.seconds(0, 1, 12);
            x.seconds(2, 0, 5);
            x.broken(1, true);
            x.broken(1, false);
            x.send(MOST_SAVED);
            units("more ranks at once", x, "21");
            x.seconds(1, 1, 15);
            sent("another way is 3 less, of " + told, x, told, told == 3 ? "20" : "21");
        }
    }

    private static void savedTheMost() {
        for (int first : row(50_003, 50_004)) {
            SendBest x = table(row(2, 9), row(first, -1), row(-1, 99_999), row(-1, -1), row(-1, -1));
            x.send(0);
            x.seconds(2, 0, 0);
            x.seconds(3, 1, 0);
            // 9 x 99,999 + 2 x 50,004 are 999,999
            sent("at most 999999 saved of 1000000", x, MOST_SAVED, "01");
            sent("saved enough of 999999", x, 999_999, first == 50_004 ? "23" : "01");
        }
        SendBest y = table(row(8, 8), row(62_500, -1), row(-1, 62_500), row(-1, -1), row(-1, -1));
        y.send(0);
        y.seconds(2, 0, 0);
        y.seconds(3, 1, 0);
        sent("1000000 saved of as many", y, MOST_SAVED, "23");
        SendBest z = table(row(9, 9), row(99_999, -1), row(-1, 99_999), row(-1, -1), row(-1, -1));
        z.send(0);
        z.seconds(2, 0, 0);
        z.seconds(3, 1, 0);
        sent("1799982 saved of 1000000", z, MOST_SAVED, "23");
    }

    private static void savedInSpiteOfFixed() {
        for (int told = 20; told <= 21; told++) {
            SendBest x = table(row(2, 9), row(100, -1), row(-1, 500), row(-1, -1), row(-1, -1));
            x.send(0);
            x.stay(1, true);
            x.seconds(2, 0, 90);
            x.seconds(3, 1, 0);
            sent("the fixed one saves nothing, told " + told, x, told, told == 20 ? "21" : "01");
            check.due("16: the fixed one counts, told " + told, x.sum(1), 4500 + (told == 20 ? 180 : 200));
        }
    }

    private static void zeroSaved() {
        sent("0 is as 1: 1 less", nearer(1, 7, 6), 0, "1");
        sent("0 is as 1: the same", nearer(1, 7, 7), 0, "0");
        sent("0 is as 1: 1 more", nearer(1, 7, 8), 0, "0");
        sent("1: 1 less", nearer(1, 7, 6), 1, "1");
        sent("1: the same", nearer(1, 7, 7), 1, "0");
        sent("2: 1 less", nearer(1, 7, 6), 2, "0");
        sent("2: 2 less", nearer(1, 7, 5), 2, "1");
        sent("0 is as 1: 0 seconds", nearer(1, 1, 0), 0, "1");
        sent("0 is as 1: 0 seconds before, too", nearer(1, 0, 0), 0, "0");
    }

    /** With more ranks the best plan is made as it is, also where it saves less than is told. */
    private static void moreRanksTakeAll() {
        SendBest x = table(row(9), row(100), row(-1), row(-1));
        x.send(0);
        x.seconds(1, 0, 99);
        sent("9 saved of 1000000", x, MOST_SAVED, "0");
        x.incident(1);
        x.need(1, 0, 1);
        x.seconds(2, 1, 99_999);
        sent("one rank more", x, MOST_SAVED, "12");
        SendBest y = table(row(3, 3), row(1, 1));
        y.send(0);
        y.rank(1, 4);
        sent("one rank more for the other", y, MOST_SAVED, "x0");
        y.rank(1, 3);
        sent("as many ranks and the same sum", y, 0, "x0");
    }

    private static void sameSumStays() {
        SendBest x = table(row(2, 3), row(-1, 30), row(45, -1));
        x.send(0);
        units("2 x 45 and 3 x 30", x, "10");
        x.seconds(0, 0, 30);
        x.seconds(1, 1, 40);
        sent("2 x 30 and 3 x 40 are the same", x, 0, "10");
        x.recall(0);
        sent("not the same ranks, so the lowest units", x, 0, "01");
        sent("the same sum again", x, 1, "01");
    }

    // ---- ties

    private static void tiesOfEqualUnits() {
        for (int units = 0; units <= 12; units++) {
            SendBest x = new SendBest();
            x.incident(4);
            x.need(0, 2, 10);
            for (int u = 0; u < units; u++) {
                x.unit(4);
                x.seconds(u, 0, 7);
            }
            sent(units + " equal units", x, 0, "0123456789".substring(0, Math.min(10, units))
                + "x".repeat(10 - Math.min(10, units)));
        }
    }

    private static void tiesByNeedsNotBySums() {
        // need 0 gets unit 0, though need 1 then gets unit 3 instead of 1 and need 2 gets 1
        SendBest x = table(row(1, 1, 1), row(5, 5, -1), row(5, -1, 5), row(-1, -1, -1), row(-1, 5, -1));
        sent("need 0 the lowest", x, 0, "031");
        SendBest y = table(row(1, 1, 1), row(-1, 5, 5), row(5, 5, -1), row(5, -1, 5));
        sent("need 0 the lowest, then need 1", y, 0, "102");
        SendBest z = table(row(5, 1, 5), row(6, 6, 6), row(6, 6, 6), row(6, 6, 6));
        sent("by numbers of needs, not by ranks", z, 0, "012");
        SendBest w = table(row(1, 1), row(10, 9), row(9, 8));
        sent("10 and 8 are as much as 9 and 9", w, 0, "01");
    }

    private static void tiesOfNone() {
        SendBest x = table(row(6, 6, 6, 6), row(8, 8, 8, 8));
        sent("the first need", x, 0, "0xxx");
        x.unit(1);
        x.seconds(1, 2, 8);
        x.seconds(1, 3, 8);
        sent("then the third", x, 0, "0x1x");
        SendBest y = table(row(6, 6), row(-1, 8), row(8, -1));
        y.reserve(1, 10);
        sent("unit 1 for need 0 before unit 0 for need 1", y, 0, "1x");
        SendBest z = table(row(3, 2), row(20, 30));
        sent("the higher rank, though the sums are the same", z, 0, "0x");
        SendBest w = table(row(2, 3), row(30, 20));
        sent("the higher rank, though it comes later", w, 0, "x0");
    }

    /** One unit is all that can be sent: a high one for need 0, or unit 0 for need 1. */
    private static void everyUnitBeforeNone() {
        for (int unit = 1; unit < 12; unit++) {
            SendBest x = table(row(6, 6), row(-1, 8));
            for (int u = 1; u <= unit; u++) {
                x.unit(1);
            }
            x.seconds(unit, 0, 8);
            x.reserve(unit, 10);
            sent("unit " + unit + " before none", x, 0, Integer.toHexString(unit) + "x");
        }
    }

    private static void tiesInTheReservesOrder() {
        for (int against = 1; against <= 10; against++) {
            SendBest x = table(row(2, 4, 2, 4), row(3, 3, 3, 3), row(3, 3, 3, 3), row(3, 3, 3, 3), row(3, 3, 3, 3));
            x.reserve(0, against);
            boolean apart = against == 3 || against == 4;
            sent("the reserve's rank " + against, x, 0, apart ? "2031" : "0123");
        }
    }

    /** Need 9 can have unit 9, 10 or 11 at the same seconds, beside nine that all units can fill. */
    private static void tieOfTheLastNeed() {
        for (int first = 9; first <= 11; first++) {
            SendBest x = new SendBest();
            x.incident(1);
            x.incident(1);
            x.need(0, 0, 9);
            x.need(1, 1, 1);
            for (int u = 0; u < 12; u++) {
                x.unit(u < first ? 1 : 3);
                x.seconds(u, 0, 50);
                x.seconds(u, 1, 50);
            }
            sent("from unit " + first + " on", x, 0, "012345678" + Integer.toHexString(first));
            x.broken(first, true);
            sent("from the one after " + first, x, 0, "012345678" + (first < 11 ? Integer.toHexString(first + 1) : "x"));
        }
    }

    // ---- a present plan that is one no longer

    private static void noPlanBySeconds() {
        SendBest x = nearer(5, 10, 90_000);
        sent("a plan still", x, MOST_SAVED, "0");
        x.seconds(0, 0, -1);
        check.due("16: it fills the need still", x.sum(0), 0);
        sent("no seconds", x, MOST_SAVED, "1");
        SendBest y = nearer(5, 10, -1);
        y.seconds(0, 0, -1);
        sent("no seconds and no other", y, MOST_SAVED, "x");
    }

    private static void noPlanByLimit() {
        SendBest x = nearer(5, 60, 59);
        x.limit(0, 60);
        sent("at the limit", x, MOST_SAVED, "0");
        x.limit(0, 59);
        sent("one above the limit", x, MOST_SAVED, "1");
        x.limit(0, 58);
        sent("none at the limit", x, MOST_SAVED, "x");
        SendBest y = nearer(5, 60, 60);
        y.limit(0, 60);
        y.seconds(0, 0, 61);
        sent("farther than the limit now", y, MOST_SAVED, "1");
    }

    private static void noPlanByReserve() {
        SendBest x = table(row(1, 1, 1), row(5, -1, -1), row(-1, 5, -1), row(-1, -1, 5), row(-1, -1, 4));
        x.seconds(3, 2, -1);
        x.send(0);
        x.seconds(3, 2, 4);
        x.reserve(1, 10);
        sent("at most 4 less 1", x, MOST_SAVED, "012");
        x.reserve(2, 10);
        sent("at most 4 less 2, and the least sum then", x, MOST_SAVED, "0x3");
        x.reserve(1, 10);
        sent("more ranks again", x, MOST_SAVED, "013");
    }

    private static void noPlanByReserveRank() {
        SendBest x = table(row(4, 4), row(5, 5), row(5, 5));
        x.reserve(1, 4);
        sent("not below the reserve's rank", x, 0, "01");
        x.reserve(1, 5);
        sent("below the reserve's rank", x, MOST_SAVED, "0x");
    }

    private static void noPlanByRank() {
        SendBest x = table(row(4, 4), row(5, 5), row(5, 5));
        x.reserve(1, 4);
        x.send(0);
        x.rank(0, 3);
        sent("one is below the reserve's rank now", x, MOST_SAVED, "x0");
        x.rank(0, 4);
        sent("it is not any more", x, MOST_SAVED, "01");
    }

    private static void noPlanByBrokenOnes() {
        SendBest x = table(row(1, 2), row(5, -1), row(-1, 5), row(-1, -1));
        x.reserve(1, 10);
        sent("3 units less 1", x, 0, "01");
        x.broken(2, true);
        units("a unit of the reserve breaks down", x, "01");
        sent("2 units less 1", x, MOST_SAVED, "x1");
        x.broken(2, false);
        sent("3 units less 1 again", x, MOST_SAVED, "01");
    }

    private static void noPlanByOneWhoStayed() {
        SendBest x = nearer(5, 60, 61);
        x.stay(0, true);
        x.seconds(0, 0, -1);
        sent("it stayed, but can't", x, MOST_SAVED, "1");
        check.state("11: it fills none now", () -> x.stay(0, false));
        SendBest y = nearer(5, 60, 61);
        y.stay(0, true);
        y.seconds(0, 0, -1);
        y.seconds(0, 0, 99_999);
        sent("it can again, so it stays", y, 0, "0");
    }

    private static void noPlanChangesAll() {
        SendBest x = table(row(1, 9), row(10, -1), row(-1, 10), row(-1, -1));
        x.send(0);
        x.seconds(2, 1, 9);
        sent("9 saved of 1000000", x, MOST_SAVED, "01");
        x.seconds(0, 0, -1);
        sent("no plan, so the best one everywhere", x, MOST_SAVED, "x2");
    }

    /** A need that lost its unit to a breakdown has none, which a plan may have. */
    private static void aBrokenUnitLeavesAPlan() {
        SendBest x = table(row(1, 9), row(10, -1), row(-1, 10), row(-1, -1));
        x.send(0);
        x.seconds(2, 1, 9);
        x.broken(0, true);
        sent("as many ranks as are possible", x, 10, "x1");
        sent("9 saved of 9", x, 9, "x2");
    }

    // ---- units that stay

    private static void fixedAtTheLimit() {
        SendBest x = nearer(5, 60, 10);
        x.stay(0, true);
        x.limit(0, 60);
        sent("it stays at the limit", x, 0, "0");
        x.limit(0, 59);
        sent("it can't above the limit", x, 0, "1");
        SendBest y = nearer(5, 99_999, 0);
        y.stay(0, true);
        y.limit(0, 99_999);
        sent("it stays at the highest limit", y, 0, "0");
        y.stay(0, false);
        sent("it does not stay any more", y, 0, "1");
    }

    private static void fixedIsForNothingElse() {
        SendBest x = table(row(1, 1), row(99_999, -1));
        x.send(0);
        x.stay(0, true);
        x.rank(1, 9);
        x.seconds(0, 1, 0);
        sent("for nothing else", x, 0, "0x");
        check.due("17: an alternative fills none", x.alternative(1), -1);
        check.due("18: it could", x.never(0), -1);
        x.stay(0, false);
        sent("free to go", x, MOST_SAVED, "x0");
        x.stay(0, true);
        x.close(1);
        sent("free when its incident is closed", x, MOST_SAVED, "0x");
    }
}
