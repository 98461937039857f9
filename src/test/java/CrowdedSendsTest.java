import java.util.Random;

/**
 * Promise 10 where it is hardest: 12 units and 10 needs with few different numbers, so that many plans have
 * the same sum; each plan compared with that of the plain form.
 */
public final class CrowdedSendsTest {
    private static final Check check = new Check("CrowdedSendsTest");

    private final Random random;
    private final int ranks;
    private final int spread;
    private final int skills;
    private final SendBest x = new SendBest();
    private final PlainSendBest plain = new PlainSendBest();

    private CrowdedSendsTest(long seed) {
        random = new Random(seed);
        ranks = 1 + random.nextInt(3);
        spread = 1 + random.nextInt(4);
        skills = 1 + random.nextInt(4);
    }

    public static void main(String[] args) {
        for (int seed = 0; seed < 4000 && !check.isWrong(); seed++) {
            CrowdedSendsTest run = new CrowdedSendsTest(seed);
            run.setUp();
            for (int sends = 0; sends < 5; sends++) {
                run.send("seed " + seed + ", send " + sends);
                run.changeSome();
            }
        }
        check.end();
    }

    private void setUp() {
        for (int i = 0; i < 6; i++) {
            int rank = 1 + random.nextInt(ranks);
            x.incident(rank);
            plain.incident(rank);
        }
        for (int d = 0; d < 10; d++) {
            int incident = random.nextInt(6);
            int skill = random.nextInt(skills);
            x.need(incident, skill, 1);
            plain.need(incident, skill, 1);
        }
        for (int u = 0; u < 12; u++) {
            int skillsOfUnit = random.nextInt(1 << skills);
            x.unit(skillsOfUnit);
            plain.unit(skillsOfUnit);
            for (int i = 0; i < 6; i++) {
                seconds(u, i);
            }
        }
    }

    private void seconds(int unit, int incident) {
        int s = random.nextInt(spread + 1) - 1;
        x.seconds(unit, incident, s);
        plain.seconds(unit, incident, s);
    }

    private void changeSome() {
        for (int k = 0; k < 3; k++) {
            seconds(random.nextInt(12), random.nextInt(6));
        }
        int units = random.nextInt(3) == 0 ? 0 : random.nextInt(13);
        int rank = 1 + random.nextInt(ranks + 1);
        x.reserve(units, rank);
        plain.reserve(units, rank);
        int unit = random.nextInt(12);
        if (plain.fills(unit) >= 0) {
            x.recall(unit);
            plain.recall(unit);
        }
        int stays = random.nextInt(12);
        if (plain.fills(stays) >= 0 && !plain.isToldToStay(stays)) {
            x.stay(stays, true);
            plain.stay(stays, true);
        }
    }

    private void send(String when) {
        int saved = random.nextInt(3);
        check.due(when, x.send(saved), plain.send(saved));
        for (int d = 0; d < 10; d++) {
            check.due(when + ", need " + d, x.needAt(d, 2), plain.needAt(d, 2));
        }
    }
}
