/**
 * The lowest and the highest number of each range with what they do, and the first one on either side of
 * it. That the refused ones change nothing stands in RefusalsTest.
 */
public final class RangesTest {
    private static final Check check = new Check("RangesTest");

    public static void main(String[] args) {
        skillsOfUnit();
        rankOfIncident();
        anotherRank();
        skillOfNeed();
        countOfNeeds();
        needsInAll();
        seconds();
        limit();
        limitOfEachSkill();
        reserveUnits();
        reserveRank();
        saved();
        whatOfNeed();
        whatOfSum();
        numbersOfUnits();
        numbersOfIncidents();
        numbersOfNeeds();
        countOfNever();
        check.end();
    }

    /** An incident of rank 1 with a need of a skill, and a unit with skills and 10 seconds. */
    private static SendBest pair(int skills, int skill) {
        SendBest x = new SendBest();
        x.unit(skills);
        x.incident(1);
        x.need(0, skill, 1);
        x.seconds(0, 0, 10);
        return x;
    }

    private static void skillsOfUnit() {
        SendBest x = new SendBest();
        check.range("2: unit(-1)", () -> x.unit(-1));
        check.due("2: unit(0)", x.unit(0), 0);
        check.due("2: unit(65535)", x.unit(65_535), 1);
        check.range("2: unit(65536)", () -> x.unit(65_536));
        for (int skill = 0; skill < 16; skill++) {
            check.due("2: no skills, skill " + skill, pair(0, skill).send(0), 0);
            check.due("2: all skills, skill " + skill, pair(65_535, skill).send(0), 1);
            for (int other = 0; other < 16; other++) {
                check.due("2: skill " + other + " for " + skill, pair(1 << other, skill).send(0), other == skill ? 1 : 0);
            }
        }
    }

    private static void rankOfIncident() {
        SendBest x = new SendBest();
        check.range("3: incident(0)", () -> x.incident(0));
        check.due("3: incident(1)", x.incident(1), 0);
        check.due("3: incident(9)", x.incident(9), 1);
        check.range("3: incident(10)", () -> x.incident(10));
        x.need(0, 0, 1);
        check.due("3: sum(0) at 1", x.sum(0), 1);
        x.need(1, 0, 1);
        check.due("3: sum(0) at 1 and 9", x.sum(0), 10);
    }

    private static void anotherRank() {
        SendBest x = pair(0, 0);
        for (int rank = 9; rank >= 1; rank--) {
            x.rank(0, rank);
            check.due("4: sum(0) at " + rank, x.sum(0), rank);
        }
        check.range("4: rank(0, 0)", () -> x.rank(0, 0));
        check.range("4: rank(0, 10)", () -> x.rank(0, 10));
        check.due("4: the rank before", x.sum(0), 1);
        x.rank(0, 1);
        check.due("4: the same again", x.sum(0), 1);
    }

    private static void skillOfNeed() {
        SendBest x = new SendBest();
        x.incident(1);
        check.unknown("5: need(0, -1, 1)", () -> x.need(0, -1, 1));
        check.due("5: need(0, 0, 1)", x.need(0, 0, 1), 1);
        check.due("5: need(0, 15, 1)", x.need(0, 15, 1), 2);
        check.unknown("5: need(0, 16, 1)", () -> x.need(0, 16, 1));
        check.due("5: needAt(0, 1)", x.needAt(0, 1), 0);
        check.due("5: needAt(1, 1)", x.needAt(1, 1), 15);
    }

    private static void countOfNeeds() {
        for (int n = 0; n <= 10; n++) {
            SendBest x = new SendBest();
            x.incident(1);
            check.due("5: need(0, 0, " + n + ")", x.need(0, 0, n), n);
            check.due("5: sum(0) with " + n, x.sum(0), n);
            int first = n;
            check.unknown("5: needAt(" + n + ", 0)", () -> x.needAt(first, 0));
        }
        SendBest y = new SendBest();
        y.incident(1);
        check.range("5: need(0, 0, -1)", () -> y.need(0, 0, -1));
        check.range("5: need(0, 0, 11)", () -> y.need(0, 0, 11));
    }

    /** As many as there is room for, and one more than that, whatever there was before. */
    private static void needsInAll() {
        for (int before = 0; before <= 10; before++) {
            SendBest x = new SendBest();
            x.incident(1);
            x.incident(2);
            x.need(0, 0, before);
            int room = 10 - before;
            if (before > 0) {
                check.noRoom("5: need(1, 1, " + (room + 1) + ") after " + before, () -> x.need(1, 1, room + 1));
            } else {
                check.range("5: need(1, 1, 11)", () -> x.need(1, 1, room + 1));
            }
            check.due("5: none of them was made", x.need(1, 1, 0), before);
            check.due("5: need(1, 1, " + room + ") after " + before, x.need(1, 1, room), 10);
            check.due("5: sum(0)", x.sum(0), before + 2 * room);
        }
    }

    private static void seconds() {
        SendBest x = pair(1, 0);
        x.rank(0, 9);
        x.send(0);
        check.range("6: seconds(0, 0, -2)", () -> x.seconds(0, 0, -2));
        check.range("6: seconds(0, 0, 100000)", () -> x.seconds(0, 0, 100_000));
        check.due("6: the seconds before", x.sum(1), 90);
        x.seconds(0, 0, 99_999);
        check.due("6: 99999", x.sum(1), 899_991);
        check.due("6: send with 99999", x.send(0), 1);
        x.seconds(0, 0, 0);
        check.due("6: 0", x.sum(1), 0);
        check.due("6: 0 are seconds, too", x.never(0), -1);
        check.due("6: send with 0", x.send(0), 1);
        x.seconds(0, 0, -1);
        check.due("6: -1 is none", x.never(0), 0);
        check.due("6: send with none", x.send(0), 0);
        x.seconds(0, 0, -1);
        x.seconds(0, 0, 1);
        check.due("6: send with 1", x.send(0), 1);
    }

    private static void limit() {
        SendBest x = pair(1, 0);
        check.unknown("7: limit(-1, 0)", () -> x.limit(-1, 0));
        check.unknown("7: limit(16, 0)", () -> x.limit(16, 0));
        check.range("7: limit(0, -2)", () -> x.limit(0, -2));
        check.range("7: limit(0, 100000)", () -> x.limit(0, 100_000));
        int[] limits = {0, 1, 500, 99_998, 99_999};
        for (int s : limits) {
            x.limit(0, s);
            x.seconds(0, 0, s);
            check.due("7: " + s + " at the limit", x.never(0), -1);
            check.due("7: send at the limit " + s, x.send(0), 1);
            check.due("7: sum at the limit " + s, x.sum(1), s);
            if (s < 99_999) {
                x.seconds(0, 0, s + 1);
                check.due("7: one above " + s, x.never(0), 0);
                check.due("7: send with one above " + s, x.send(0), 0);
            }
            if (s > 0) {
                x.seconds(0, 0, s - 1);
                check.due("7: one below " + s, x.never(0), -1);
            }
        }
        x.seconds(0, 0, 99_999);
        x.limit(0, 0);
        check.due("7: 99999 above 0", x.never(0), 0);
        x.limit(0, -1);
        check.due("7: -1 is none", x.never(0), -1);
    }

    private static void limitOfEachSkill() {
        for (int skill = 0; skill < 16; skill++) {
            SendBest x = pair(65_535, skill);
            for (int other = 0; other < 16; other++) {
                if (other != skill) {
                    x.limit(other, 0);
                }
            }
            check.due("7: the others' limits, skill " + skill, x.alternative(0), 0);
            x.limit(skill, 9);
            check.due("7: its own limit, skill " + skill, x.alternative(0), -1);
        }
    }

    /** 12 units that can fill all of 10 needs of a rank. */
    private static SendBest plenty(int rank) {
        SendBest x = new SendBest();
        x.incident(rank);
        x.need(0, 0, 10);
        for (int u = 0; u < 12; u++) {
            x.unit(1);
            x.seconds(u, 0, u);
        }
        return x;
    }

    private static void reserveUnits() {
        for (int units = 0; units <= 12; units++) {
            SendBest x = plenty(9);
            x.reserve(units, 10);
            check.due("8: reserve(" + units + ", 10)", x.send(0), Math.min(10, 12 - units));
        }
        SendBest y = plenty(9);
        check.range("8: reserve(-1, 10)", () -> y.reserve(-1, 10));
        check.range("8: reserve(13, 10)", () -> y.reserve(13, 10));
        check.due("8: no reserve still", y.send(0), 10);
    }

    private static void reserveRank() {
        for (int rank = 1; rank <= 9; rank++) {
            for (int against = 1; against <= 10; against++) {
                SendBest x = plenty(rank);
                x.reserve(11, against);
                check.due("8: rank " + rank + " against " + against, x.send(0), rank < against ? 1 : 10);
            }
        }
        SendBest y = plenty(5);
        check.range("8: reserve(11, 0)", () -> y.reserve(11, 0));
        check.range("8: reserve(11, 11)", () -> y.reserve(11, 11));
        check.due("8: no reserve still", y.send(0), 10);
    }

    private static void saved() {
        SendBest x = pair(1, 0);
        check.range("10: send(-1)", () -> x.send(-1));
        check.range("10: send(1000001)", () -> x.send(1_000_001));
        check.due("10: nothing was sent", x.fills(0), -1);
        check.due("10: send(1000000)", x.send(1_000_000), 1);
        x.recall(0);
        check.due("10: send(0)", x.send(0), 1);
    }

    private static void whatOfNeed() {
        SendBest x = pair(1 << 7, 7);
        check.unknown("14: needAt(0, -1)", () -> x.needAt(0, -1));
        check.due("14: needAt(0, 0)", x.needAt(0, 0), 0);
        check.due("14: needAt(0, 1)", x.needAt(0, 1), 7);
        check.due("14: needAt(0, 2)", x.needAt(0, 2), -1);
        check.due("14: needAt(0, 3)", x.needAt(0, 3), 1);
        check.unknown("14: needAt(0, 4)", () -> x.needAt(0, 4));
        x.send(0);
        check.due("14: needAt(0, 2), sent", x.needAt(0, 2), 0);
        x.close(0);
        check.due("14: needAt(0, 2), closed", x.needAt(0, 2), -1);
        check.due("14: needAt(0, 3), closed", x.needAt(0, 3), 0);
        check.unknown("14: needAt(0, 4), closed", () -> x.needAt(0, 4));
    }

    private static void whatOfSum() {
        SendBest x = pair(1, 0);
        check.unknown("16: sum(-1)", () -> x.sum(-1));
        check.due("16: sum(0)", x.sum(0), 1);
        check.due("16: sum(1)", x.sum(1), 0);
        check.unknown("16: sum(2)", () -> x.sum(2));
        x.send(0);
        check.due("16: sum(0), sent", x.sum(0), 0);
        check.due("16: sum(1), sent", x.sum(1), 10);
    }

    private static void numbersOfUnits() {
        for (int count = 1; count <= 12; count++) {
            SendBest x = new SendBest();
            x.incident(1);
            x.need(0, 0, 1);
            for (int u = 0; u < count; u++) {
                check.due("2: unit", x.unit(1), u);
            }
            int last = count - 1;
            check.unknown("6: seconds of the one after " + last, () -> x.seconds(last + 1, 0, 0));
            check.unknown("9: broken, the one after " + last, () -> x.broken(last + 1, true));
            check.unknown("11: stay, the one after " + last, () -> x.stay(last + 1, true));
            check.unknown("12: recall, the one after " + last, () -> x.recall(last + 1));
            check.unknown("15: fills, the one after " + last, () -> x.fills(last + 1));
            x.seconds(last, 0, 4);
            x.send(0);
            check.due("15: fills(" + last + ")", x.fills(last), 0);
            x.stay(last, true);
            x.recall(last);
            x.broken(last, true);
            check.due("15: fills(" + last + "), recalled", x.fills(last), -1);
        }
    }

    private static void numbersOfIncidents() {
        for (int count = 1; count <= 6; count++) {
            SendBest x = new SendBest();
            x.unit(1);
            for (int i = 0; i < count; i++) {
                check.due("3: incident", x.incident(2), i);
            }
            int last = count - 1;
            check.unknown("4: rank, the one after " + last, () -> x.rank(last + 1, 1));
            check.unknown("5: need, the one after " + last, () -> x.need(last + 1, 0, 1));
            check.unknown("6: seconds for the one after " + last, () -> x.seconds(0, last + 1, 0));
            check.unknown("13: close, the one after " + last, () -> x.close(last + 1));
            x.rank(last, 3);
            check.due("5: need(" + last + ", 0, 1)", x.need(last, 0, 1), 1);
            x.seconds(0, last, 5);
            check.due("10: send for incident " + last, x.send(0), 1);
            check.due("16: sum(1) of incident " + last, x.sum(1), 15);
            x.close(last);
            check.due("13: fills(0) when " + last + " is closed", x.fills(0), -1);
        }
    }

    private static void numbersOfNeeds() {
        for (int count = 1; count <= 10; count++) {
            SendBest x = new SendBest();
            x.incident(1);
            x.unit(2);
            x.seconds(0, 0, 5);
            x.need(0, 0, count - 1);
            x.need(0, 1, 1);
            int last = count - 1;
            check.unknown("14: needAt, the one after " + last, () -> x.needAt(last + 1, 0));
            check.unknown("17: alternative, the one after " + last, () -> x.alternative(last + 1));
            check.due("17: alternative(" + last + ")", x.alternative(last), 0);
            check.due("18: never(" + last + ")", x.never(last), -1);
            check.due("18: never(" + (last - 1) + ")", last == 0 ? -1 : x.never(last - 1), last - 1);
            check.due("10: send for need " + last, x.send(0), 1);
            check.due("14: needAt(" + last + ", 2)", x.needAt(last, 2), 0);
            check.due("15: fills(0) at need " + last, x.fills(0), last);
        }
    }

    private static void countOfNever() {
        SendBest x = new SendBest();
        x.incident(1);
        x.need(0, 3, 10);
        check.range("18: never(-1)", () -> x.never(-1));
        for (int i = 0; i < 10; i++) {
            check.due("18: never(" + i + ")", x.never(i), i);
        }
        check.due("18: never(10)", x.never(10), -1);
        check.due("18: never(most)", x.never(Integer.MAX_VALUE), -1);
    }
}
