/** Counts answers that are not as due; the tests' common part. */
final class Due {
    static final long NO = Long.MIN_VALUE;
    static final int NOTHING = -11, BEYOND = -13, BELOW = -14;
    private int asked = 0;
    private int wrong = 0;
    private int promise = 0;
    private String sentence = "";

    void promise(int number) {
        promise = number;
        sentence = "";
    }

    /** The words of the document that what is asked next would break. */
    void sentence(int number, String words) {
        promise = number;
        sentence = " (" + words + ")";
    }

    void is(String what, long got, long due) {
        asked++;
        if (got != due) {
            wrong++;
            System.out.println("promise " + promise + sentence + ": " + what + " answered " + got + ", due is " + due);
        }
    }

    void isText(String what, String got, String due) {
        asked++;
        if (!got.equals(due)) {
            wrong++;
            System.out.println("promise " + promise + sentence + ": " + what + " answered " + got + ", due is " + due);
        }
    }

    void end(String test) {
        System.out.println(test + ": " + asked + " answers, " + wrong + " not as due");
        if (wrong != 0) {
            System.exit(1);
        }
    }

    /** A text is fed, byte by byte. */
    static void feed(KnifeDesk desk, String text) {
        for (int i = 0; i < text.length(); i++) {
            desk.feed(text.charAt(i));
        }
    }

    static int worths(KnifeDesk desk, String text) {
        feed(desk, text);
        return desk.worths();
    }

    static int divides(KnifeDesk desk, String text) {
        feed(desk, text);
        return desk.divides();
    }

    /** A desk with so many strips and agents, and these worths. */
    static KnifeDesk desk(int strips, int agents, String worths) {
        KnifeDesk desk = new KnifeDesk();
        desk.begin(strips, agents);
        if (!worths.isEmpty()) {
            worths(desk, worths);
        }
        return desk;
    }

    /** The log as it is printed. */
    static String log(KnifeDesk desk) {
        int length = desk.prints();
        StringBuilder text = new StringBuilder();
        for (int i = 0; i < length; i++) {
            text.append((char) desk.paper(i));
        }
        return length < 0 ? "" + length : text.toString();
    }

    /** What an agent tells, figure by figure. */
    static String row(KnifeDesk desk, int agent, int how) {
        StringBuilder text = new StringBuilder();
        int strips = desk.count(1);
        for (int s = 0; s < strips; s++) {
            text.append(desk.strip(agent, s, how));
        }
        return text.toString();
    }

    private static String point(long above, long below) {
        return below == 1 ? "" + above : above + "/" + below;
    }

    /** The shares, as a division is told; an agent without spans is left out. */
    static String shares(KnifeDesk desk) {
        StringBuilder text = new StringBuilder();
        int agents = desk.count(0);
        for (int i = 0; i < agents; i++) {
            long spans = desk.share(i, -1, 0);
            for (int k = 0; k < spans; k++) {
                text.append(k > 0 ? "," : (text.length() > 0 ? ";" : "") + i + "=");
                text.append(point(desk.share(i, k, 0), desk.share(i, k, 1))).append('-');
                text.append(point(desk.share(i, k, 2), desk.share(i, k, 3)));
            }
        }
        return text.toString();
    }

    static String gets(KnifeDesk desk, int agent, int other, int how) {
        return point(desk.gets(agent, other, how, 0), desk.gets(agent, other, how, 1));
    }

    static String off(KnifeDesk desk, int agent, int what) {
        return point(desk.off(agent, what, 0), desk.off(agent, what, 1));
    }

    static String would(KnifeDesk desk, int way, int from, int agent) {
        return point(desk.would(way, from, agent, 0), desk.would(way, from, agent, 1));
    }

    static String mark(KnifeDesk desk, int agent, int a, int b, int x, int y) {
        return point(desk.mark(agent, a, b, x, y, 0), desk.mark(agent, a, b, x, y, 1));
    }

    static String exact(KnifeDesk desk, int i, int j) {
        return point(desk.exact(i, j, 0), desk.exact(i, j, 1)) + "-" + point(desk.exact(i, j, 2), desk.exact(i, j, 3));
    }
}
