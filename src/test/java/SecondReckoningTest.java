/** Long runs of calls, drawn by a fixed rule, each answer against the second reckoning (Oracle). */
public final class SecondReckoningTest {
    // an object is used for at most 512 calls; the longest step (a text fed and read) makes fewer than 170
    private static final int CALLS = 512, LONGEST_STEP = 170;
    private static final int[] WILD = {Integer.MIN_VALUE, Integer.MIN_VALUE + 1, -1000, -2, -1, 0, 1, 2, 3, 4, 5, 6, 9, 10,
        15, 16, 17, 19, 20, 21, 40, 127, 128, 160, 161, 999, 1000, 1001, 65536, 1000000000, Integer.MAX_VALUE - 1,
        Integer.MAX_VALUE};

    private static long seed;
    private static int wrong = 0;
    private static int asked = 0;
    private static final int[][] kinds = new int[35][4];

    private static int draw(int bound) {
        seed = seed * 6364136223846793005L + 1442695040888963407L;
        return (int) ((seed >>> 33) % bound);
    }

    /** Mostly 0 .. bound - 1, now and then just beside, seldom anything. */
    private static int near(int bound) {
        int k = draw(40);
        if (k == 0) {
            return WILD[draw(WILD.length)];
        }
        return k < 3 ? draw(bound + 2) - 1 : draw(bound);
    }

    private final KnifeDesk desk = new KnifeDesk();
    private final Oracle oracle = new Oracle();
    private final int run;
    private int calls = 0;

    private SecondReckoningTest(int number) {
        run = number;
    }

    private int s() {
        return oracle.count(1);
    }

    private int n() {
        return oracle.count(0);
    }

    private void same(int promise, String call, long got, long due) {
        asked++;
        calls++;
        kinds[promise][due == KnifeDesk.NO ? 0 : due < 0 ? 1 : due == 0 ? 2 : 3]++;
        if (got != due) {
            wrong++;
            if (wrong < 30) {
                System.out.println("run " + run + ": " + call + " answered " + got + ", due is " + due);
            }
        }
    }

    private int worthDrawn() {
        int k = draw(4);
        return k == 0 ? near(10) : k == 1 ? draw(3) : draw(10);
    }

    private void feedAll(String text) {
        for (int i = 0; i < text.length(); i++) {
            same(10, "feed(" + (int) text.charAt(i) + ")", desk.feed(text.charAt(i)), oracle.feed(text.charAt(i)));
        }
    }

    private String spoilt(String text) {
        if (draw(3) > 0 || text.isEmpty()) {
            return text;
        }
        int i = draw(text.length());
        switch (draw(3)) {
            case 0: return text.substring(0, i);
            case 1: return text.substring(0, i) + text.substring(i + 1);
            default: return text.substring(0, i) + ";:,=-/0159wtx".charAt(draw(13)) + text.substring(i + draw(2));
        }
    }

    private void tellWorths() {
        StringBuilder b = new StringBuilder();
        int parts = 1 + draw(4);
        for (int p = 0; p < parts; p++) {
            b.append(p > 0 ? ";" : "").append(draw(2) == 0 ? 'w' : 't').append(draw(30) == 0 ? draw(10) : draw(n())).append(':');
            int numbers = 1 + draw(draw(20) == 0 ? s() + 2 : s());
            for (int k = 0; k < numbers; k++) {
                b.append(k > 0 ? "," : "").append(draw(10));
            }
        }
        String text = spoilt(b.toString());
        feedAll(text);
        same(11, "worths() of " + text, desk.worths(), oracle.worths());
    }

    private static String number(int v) {
        return draw(12) == 0 && v < 10 ? "0" + v : "" + v;
    }

    private String point(int twelfths, int parts) {
        if (twelfths % parts == 0 && draw(4) > 0) {
            return number(twelfths / parts);
        }
        return twelfths < 100 ? number(twelfths) + "/" + number(parts) : "" + twelfths / parts;
    }

    private void tellDivision() {
        StringBuilder b = new StringBuilder();
        boolean primes = draw(8) == 0;
        int parts = 1 + draw(n());
        int agent = draw(n());
        int span = Math.max(1, s() / (2 * parts));
        int place = 0;
        for (int p = 0; p < parts; p++) {
            b.append(p > 0 ? ";" : "").append(draw(40) == 0 ? draw(10) : agent).append('=');
            agent = (agent + 1) % n();
            int many = 1 + draw(2);
            for (int k = 0; k < many; k++) {
                b.append(k > 0 ? "," : "");
                if (primes) {
                    int below = 901 + draw(99);
                    b.append(k * 30 + p).append('/').append(below).append('-').append(k * 30 + p).append('/').append(below);
                } else {
                    int unit = 1 + draw(6);
                    int left = draw(12) == 0 ? draw(s() * unit + 2) : Math.min(s(), place) * unit + draw(unit);
                    int right = draw(12) == 0 ? draw(s() * unit + 2) : left + draw(span * unit);
                    place = (right + unit - 1) / unit;
                    b.append(point(left, unit)).append('-').append(point(right, unit));
                }
            }
        }
        String text = spoilt(b.toString());
        feedAll(text);
        same(12, "divides() of " + text, desk.divides(), oracle.divides());
    }

    private void looks() {
        int i = near(n());
        int j = near(n());
        int h = near(2);
        int p = near(2);
        int k = draw(10) == 0 ? near(20) : draw(8) - 1;
        int w = near(6);
        same(16, "event(" + k + ", " + w + ")", desk.event(k, w), oracle.event(k, w));
        int k2 = near(3) - 1;
        int w4 = near(4);
        same(17, "share(" + i + ", " + k2 + ", " + w4 + ")", desk.share(i, k2, w4), oracle.share(i, k2, w4));
        same(18, "gets(" + i + ", " + j + ", " + h + ", " + p + ")", desk.gets(i, j, h, p), oracle.gets(i, j, h, p));
        same(19, "envies(" + i + ", " + h + ")", desk.envies(i, h), oracle.envies(i, h));
        same(20, "fair(" + h + ")", desk.fair(h), oracle.fair(h));
        same(21, "exchange()", desk.exchange(), oracle.exchange());
        same(22, "cuts()", desk.cuts(), oracle.cuts());
        same(23, "off(" + i + ", " + h + ", " + p + ")", desk.off(i, h, p), oracle.off(i, h, p));
        int c = near(7);
        same(34, "count(" + c + ")", desk.count(c), oracle.count(c));
    }

    private void cakeCall() {
        int i = near(n());
        int k = near(s());
        int v = worthDrawn();
        int h = near(2);
        int p = near(2);
        switch (draw(8)) {
            case 0:
                same(4, "tells(" + i + ", " + k + ", " + v + ")", desk.tells(i, k, v), oracle.tells(i, k, v));
                break;
            case 1:
                if (draw(4) == 0) {
                    same(5, "honest(" + i + ")", desk.honest(i), oracle.honest(i));
                }
                break;
            case 2:
                same(6, "strip(" + i + ", " + k + ", " + h + ")", desk.strip(i, k, h), oracle.strip(i, k, h));
                break;
            case 3: {
                int b = 1 + near(draw(3) == 0 ? 1000 : 12);
                int d = 1 + near(draw(3) == 0 ? 1000 : 12);
                int a = b > 0 && b < 2000 ? near(s() * b + 1) : near(9);
                int c = d > 0 && d < 2000 ? near(s() * d + 1) : near(9);
                same(7, "span(" + i + ", " + h + ", " + a + ", " + b + ", " + c + ", " + d + ", " + p + ")",
                    desk.span(i, h, a, b, c, d, p), oracle.span(i, h, a, b, c, d, p));
                break;
            }
            case 4: {
                int b = 1 + near(draw(3) == 0 ? 1000 : 12);
                int a = b > 0 && b < 2000 ? near(s() * b / (1 + draw(4)) + 1) : near(9);
                int y = 1 + near(20);
                int x = near(draw(2) == 0 ? 20 : 4);
                same(8, "mark(" + i + ", " + a + ", " + b + ", " + x + ", " + y + ", " + p + ")",
                    desk.mark(i, a, b, x, y, p), oracle.mark(i, a, b, x, y, p));
                break;
            }
            case 5: {
                int j = near(n());
                int w = near(4);
                same(9, "exact(" + i + ", " + j + ", " + w + ")", desk.exact(i, j, w), oracle.exact(i, j, w));
                break;
            }
            default:
                same(3, "worth(" + i + ", " + k + ", " + v + ")", desk.worth(i, k, v), oracle.worth(i, k, v));
                break;
        }
    }

    private void rowCall() {
        int i = near(n());
        int l = near(4);
        int p = near(draw(3) == 0 ? 21 : 4);
        switch (draw(6)) {
            case 0: {
                int m = near(21);
                same(27, "list(" + l + ", " + m + ")", desk.list(l, m), oracle.list(l, m));
                break;
            }
            case 1: {
                int v = draw(4) == 0 ? near(12) : draw(10);
                same(28, "set(" + l + ", " + p + ", " + v + ")", desk.set(l, p, v), oracle.set(l, p, v));
                break;
            }
            case 2:
                same(29, "get(" + l + ", " + p + ")", desk.get(l, p), oracle.get(l, p));
                break;
            case 3: case 4:
                same(30, "into(" + i + ", " + l + ", " + p + ")", desk.into(i, l, p), oracle.into(i, l, p));
                break;
            default:
                same(31, "from(" + i + ", " + l + ", " + p + ")", desk.from(i, l, p), oracle.from(i, l, p));
                break;
        }
    }

    private void thoughtCall() {
        int i = near(n());
        int f = near(n());
        int way = near(5);
        switch (draw(4)) {
            case 0: {
                int w = near(3);
                // the second reckoning of a lie is slow
                if (draw(n() * s() / 2) == 0) {
                    same(25, "lie(" + way + ", " + f + ", " + i + ", " + w + ")", desk.lie(way, f, i, w), oracle.lie(way, f, i, w));
                }
                break;
            }
            case 1:
                same(26, "best(" + i + ", " + f + ")", desk.best(i, f), oracle.best(i, f));
                break;
            default: {
                int p = near(2);
                same(24, "would(" + way + ", " + f + ", " + i + ", " + p + ")", desk.would(way, f, i, p), oracle.would(way, f, i, p));
                break;
            }
        }
    }

    private void paperCall() {
        same(13, "prints()", desk.prints(), oracle.prints());
        same(14, "paper(-1)", desk.paper(-1), oracle.paper(-1));
        int from = draw(30);
        for (int i = from; i < from + 12; i++) {
            same(14, "paper(" + i + ")", desk.paper(i), oracle.paper(i));
        }
        int i = near(oracle.paper().length() + 3);
        same(14, "paper(" + i + ")", desk.paper(i), oracle.paper(i));
    }

    private void restOfPaper() {
        same(13, "prints()", desk.prints(), oracle.prints());
        for (int i = -1; i <= oracle.paper().length() && calls < CALLS; i++) {
            same(14, "paper(" + i + ")", desk.paper(i), oracle.paper(i));
        }
    }

    private void call() {
        switch (draw(24)) {
            case 0:
                if (draw(6) == 0) {
                    int strips = near(15) + 2;
                    int agents = near(4) + 2;
                    same(2, "begin(" + strips + ", " + agents + ")", desk.begin(strips, agents), oracle.begin(strips, agents));
                }
                break;
            case 1: case 2: case 3: case 4: {
                int way = near(5);
                int from = near(n());
                same(15, "shares(" + way + ", " + from + ")", desk.shares(way, from), oracle.shares(way, from));
                break;
            }
            case 5:
                if (draw(2) == 0) {
                    tellWorths();
                }
                break;
            case 6:
                tellDivision();
                break;
            case 7: case 8:
                looks();
                break;
            case 9:
                paperCall();
                break;
            case 10: case 11: case 12:
                looks();
                break;
            case 13: case 14:
                thoughtCall();
                break;
            case 15:
                if (draw(3) == 0) {
                    same(32, "image()", desk.image(), oracle.image());
                }
                break;
            case 16:
                if (draw(4) == 0) {
                    same(33, "back()", desk.back(), oracle.back());
                }
                break;
            case 17: case 18: case 19:
                rowCall();
                break;
            case 20: {
                int letter = near(128);
                same(10, "feed(" + letter + ")", desk.feed(letter), oracle.feed(letter));
                break;
            }
            default:
                cakeCall();
                break;
        }
    }

    private void all() {
        int strips = 2 + draw(15);
        int agents = 2 + draw(4);
        if (run % 4 > 0) {
            same(2, "begin(" + strips + ", " + agents + ")", desk.begin(strips, agents), oracle.begin(strips, agents));
        }
        if (run % 3 > 0) {
            for (int i = 0; i < n(); i++) {
                for (int k = 0; k < s(); k++) {
                    int v = run % 3 == 1 ? draw(10) : 1 + draw(9);
                    same(3, "worth(" + i + ", " + k + ", " + v + ")", desk.worth(i, k, v), oracle.worth(i, k, v));
                }
            }
        }
        while (calls <= CALLS - LONGEST_STEP) {
            call();
        }
        restOfPaper();
    }

    public static void main(String[] args) {
        int runs = args.length > 0 ? Integer.parseInt(args[0]) : 400;
        int first = args.length > 1 ? Integer.parseInt(args[1]) : 1;
        for (int r = first; r < first + runs; r++) {
            seed = r * 7919L;
            new SecondReckoningTest(r).all();
        }
        if (args.length > 0) {
            for (int p = 2; p < kinds.length; p++) {
                System.out.println("promise " + p + ": NO " + kinds[p][0] + ", below 0 " + kinds[p][1] + ", 0 " + kinds[p][2]
                    + ", above " + kinds[p][3]);
            }
        }
        System.out.println(asked + " answers, " + wrong + " not as the second reckoning's");
        if (wrong != 0) {
            System.exit(1);
        }
    }
}
