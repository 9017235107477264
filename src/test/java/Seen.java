/**
 * All that can be seen of a desk, in six parts, by few calls, since a desk is used for 512 at most. To look at the tape and at the image they are read and laid back, so a desk
 * that was looked at is used no more.
 */
final class Seen {
    static final int CAKE = 1, DIVISION = 2, PAPER = 4, LISTS = 8, TAPE = 16, IMAGE = 32;
    private static final String[] NAMES = {"cake", "division", "paper", "lists", "tape", "image"};
    private final String[] parts = new String[6];

    Seen(KnifeDesk x) {
        parts[0] = cake(x);
        parts[1] = division(x);
        parts[2] = paper(x);
        parts[3] = lists(x);
        parts[4] = tape(x);
        int back = x.back();
        parts[5] = back + ": " + (back < 0 ? "" : cake(x) + division(x));
    }

    static String cake(KnifeDesk x) {
        StringBuilder text = new StringBuilder();
        int agents = x.count(0);
        text.append(agents).append(" agents, ").append(x.count(1)).append(" strips");
        for (int i = 0; i < agents; i++) {
            text.append(", ").append(Due.row(x, i, 0)).append(" told ").append(Due.row(x, i, 1));
        }
        return text.toString();
    }

    static String division(KnifeDesk x) {
        StringBuilder text = new StringBuilder();
        int events = x.count(6);
        text.append(x.count(2)).append(", unit ").append(x.count(3)).append(", events ").append(events).append(": ");
        for (int k = 0; k < events; k++) {
            for (int what = 0; what < 6; what++) {
                text.append(x.event(k, what)).append(what < 5 ? "," : "; ");
            }
        }
        return text.append(Due.shares(x)).toString();
    }

    static String paper(KnifeDesk x) {
        StringBuilder text = new StringBuilder();
        int length = x.paper(-1);
        for (int i = 0; i < length; i++) {
            text.append((char) x.paper(i));
        }
        return text.toString();
    }

    static String lists(KnifeDesk x) {
        StringBuilder text = new StringBuilder();
        for (int l = 0; l < 4; l++) {
            // a row of none is one to which an agent can still tell
            text.append(x.into(0, l, 20)).append(':');
            for (int i = 0; x.get(l, i) != Due.NO; i++) {
                text.append(x.get(l, i)).append(',');
            }
            text.append(' ');
        }
        return text.toString();
    }

    /** How many bytes; and what they are, as far as what can be told with one figure more tells it. */
    private static String tape(KnifeDesk x) {
        return x.count(4) + " bytes, " + x.feed('7') + ", " + x.worths() + ", " + cake(x);
    }

    /** The names of the parts that are another one's, but for those that may be. */
    String unlike(Seen other, int mayBe) {
        StringBuilder names = new StringBuilder();
        for (int k = 0; k < parts.length; k++) {
            if ((mayBe >> k & 1) == 0 && !parts[k].equals(other.parts[k])) {
                names.append(NAMES[k]).append(": ").append(parts[k]).append(" instead of ").append(other.parts[k]).append(' ');
            }
        }
        return names.toString();
    }
}
