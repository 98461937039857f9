import java.util.Random;

/** All promises: long runs of chosen calls, each answer compared with that of the plain form. */
public final class RandomRunsTest {
    private static final Check check = new Check("RandomRunsTest");
    private static final int THROWN = 1_000_000_000;
    private static final int[] ODD = {-1, -2, 0, 1, 9, 10, 11, 12, 13, 16, 65536, 99999, 100000, 1000000, 1000001,
        Integer.MIN_VALUE, Integer.MAX_VALUE};

    private final Random random;
    private final int mostUnits;
    private final int mostSkills;
    private final int spread;
    private final SendBest x = new SendBest();
    private final PlainSendBest plain = new PlainSendBest();
    private String where = "";
    private String last = "";
    private int unitCount;
    private int incidentCount;
    private int needCount;

    private RandomRunsTest(long seed) {
        random = new Random(seed);
        mostUnits = seed % 3 == 0 ? 12 : 3 + random.nextInt(4);
        mostSkills = 1 + random.nextInt(4);
        int[] spreads = {2, 4, 10, 200, 100000};
        spread = spreads[random.nextInt(spreads.length)];
    }

    public static void main(String[] args) {
        int[] ways = new int[3];
        for (int seed = 0; seed < 600 && !check.isWrong(); seed++) {
            RandomRunsTest run = new RandomRunsTest(seed);
            run.run(seed);
            for (int w = 0; w < 3; w++) {
                ways[w] += run.plain.ways[w];
            }
        }
        System.out.println("sends through every plan " + ways[0] + ", through sets " + ways[1] + ", kept " + ways[2]);
        check.end();
    }

    private void run(int seed) {
        int settingUp = mostUnits == 12 ? 200 : 40;
        for (int step = 0; step < settingUp + 150 && !check.isWrong(); step++) {
            where = "seed " + seed + " step " + step;
            compare(step < settingUp ? random.nextInt(8) : random.nextInt(24));
            compareAll();
        }
    }

    private void compare(int kind) {
        int[] args = arguments(kind);
        if (random.nextInt(40) == 0) {
            args[random.nextInt(3)] = ODD[random.nextInt(ODD.length)];
        }
        boolean on = random.nextInt(3) > 0;
        last = "kind " + kind + " (" + args[0] + ", " + args[1] + ", " + args[2] + ", " + on + ")";
        int due = same("itself", 0, () -> call(kind, args, on), () -> callPlain(kind, args, on));
        unitCount += kind == 0 && due < THROWN ? 1 : 0;
        incidentCount += kind == 1 && due < THROWN ? 1 : 0;
        needCount = kind == 3 && due < THROWN ? due : needCount;
    }

    private int[] arguments(int kind) {
        int unit = random.nextInt(Math.max(1, unitCount));
        int incident = random.nextInt(Math.max(1, incidentCount));
        int skill = random.nextInt(mostSkills);
        int s = random.nextInt(12) == 0 ? -1 : random.nextInt(spread);
        switch (kind) {
            case 0:
                return new int[] {unitCount < mostUnits ? random.nextInt(1 << mostSkills) | 1 : 65536, 0, 0};
            case 1:
                return new int[] {1 + random.nextInt(9), 0, 0};
            case 2:
                return new int[] {incident, 1 + random.nextInt(9), 0};
            case 3:
                return new int[] {incident, skill, random.nextInt(3), 0};
            case 7:
                return new int[] {skill, random.nextInt(2) == 0 ? -1 : random.nextInt(spread), 0};
            case 8:
                return new int[] {random.nextInt(2) == 0 ? 0 : random.nextInt(mostUnits), 1 + random.nextInt(10), 0};
            case 10: case 11: case 12: case 13: case 14: case 15:
                return new int[] {random.nextInt(2) == 0 ? 0 : random.nextInt(spread * 4), 0, 0};
            case 19:
                return new int[] {random.nextInt(9) == 0 ? incident : -1, 0, 0};
            default:
                return new int[] {unit, incident, s};
        }
    }

    private int call(int kind, int[] a, boolean on) {
        switch (kind) {
            case 0: return x.unit(a[0]);
            case 1: return x.incident(a[0]);
            case 2: x.rank(a[0], a[1]); return 0;
            case 3: return x.need(a[0], a[1], a[2]);
            case 7: x.limit(a[0], a[1]); return 0;
            case 8: x.reserve(a[0], a[1]); return 0;
            case 9: x.broken(a[0], on); return 0;
            case 10: case 11: case 12: case 13: case 14: case 15: return x.send(a[0]);
            case 16: case 17: x.stay(a[0], on); return 0;
            case 18: x.recall(a[0]); return 0;
            case 19: x.close(a[0]); return 0;
            default: x.seconds(a[0], a[1], a[2]); return 0;
        }
    }

    private int callPlain(int kind, int[] a, boolean on) {
        switch (kind) {
            case 0: return plain.unit(a[0]);
            case 1: return plain.incident(a[0]);
            case 2: plain.rank(a[0], a[1]); return 0;
            case 3: return plain.need(a[0], a[1], a[2]);
            case 7: plain.limit(a[0], a[1]); return 0;
            case 8: plain.reserve(a[0], a[1]); return 0;
            case 9: plain.broken(a[0], on); return 0;
            case 10: case 11: case 12: case 13: case 14: case 15: return plain.send(a[0]);
            case 16: case 17: plain.stay(a[0], on); return 0;
            case 18: plain.recall(a[0]); return 0;
            case 19: plain.close(a[0]); return 0;
            default: plain.seconds(a[0], a[1], a[2]); return 0;
        }
    }

    private void compareAll() {
        for (int u = -1; u <= unitCount; u++) {
            int unit = u;
            same("fills", u, () -> x.fills(unit), () -> plain.fills(unit));
        }
        for (int d = -1; d <= needCount; d++) {
            int need = d;
            for (int w = -1; w <= 4; w++) {
                int what = w;
                same("needAt", d, () -> x.needAt(need, what), () -> plain.needAt(need, what));
            }
            same("alternative", d, () -> x.alternative(need), () -> plain.alternative(need));
            same("never", d, () -> x.never(need), () -> plain.never(need));
        }
        for (int w = -1; w <= 2; w++) {
            int what = w;
            same("sum", w, () -> x.sum(what), () -> plain.sum(what));
        }
    }

    private int same(String asked, int of, Check.Answer got, Check.Answer want) {
        int is = answer(got);
        int due = answer(want);
        check.due("", 0, 0);
        if (is != due) {
            check.fault(where + ", after " + last + ": " + asked + " of " + of + " is " + is + ", due is " + due);
        }
        return due;
    }

    /** The answer, or a number above all answers for each exception. */
    private static int answer(Check.Answer asked) {
        try {
            return asked.of();
        } catch (IllegalArgumentException e) {
            return e.getClass() == IllegalArgumentException.class ? THROWN : THROWN + 9;
        } catch (IndexOutOfBoundsException e) {
            return e.getClass() == IndexOutOfBoundsException.class ? THROWN + 1 : THROWN + 9;
        } catch (IllegalStateException e) {
            return THROWN + 2;
        } catch (UnsupportedOperationException e) {
            return THROWN + 3;
        } catch (RuntimeException e) {
            return THROWN + 9;
        }
    }
}
