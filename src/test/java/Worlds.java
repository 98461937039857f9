/** Objects that several tests begin with. */
final class Worlds {
    private Worlds() {
    }

    /** So many units, incidents of a rank and needs of skill 0; unit i has 10 seconds for incident i alone. */
    static SendBest oneToOne(int count, int rank) {
        SendBest x = new SendBest();
        for (int i = 0; i < count; i++) {
            x.unit(1);
            x.incident(rank);
            x.need(i, 0, 1);
            x.seconds(i, i, 10);
        }
        return x;
    }

    /** Incidents of these ranks with a need of skill 0 each, and units with these seconds for each of them. */
    static SendBest table(int[] ranks, int[][] seconds) {
        SendBest x = new SendBest();
        for (int i = 0; i < ranks.length; i++) {
            x.incident(ranks[i]);
            x.need(i, 0, 1);
        }
        for (int u = 0; u < seconds.length; u++) {
            x.unit(1);
            for (int i = 0; i < ranks.length; i++) {
                x.seconds(u, i, seconds[u][i]);
            }
        }
        return x;
    }

    /** The units of the first needs, as digits of a text: x for none. */
    static String units(SendBest x, int needs) {
        StringBuilder text = new StringBuilder();
        for (int need = 0; need < needs; need++) {
            int unit = x.needAt(need, 2);
            text.append(unit < 0 ? "x" : Integer.toHexString(unit));
        }
        return text.toString();
    }
}
