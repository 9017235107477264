/** Promises 15 to 17: the five ways, their logs, the shares that come of them. */
public final class WaysTest {
    private static final int BAD = KnifeDesk.BAD, STATE = KnifeDesk.STATE;
    private static final long NO = KnifeDesk.NO;
    private final Due due = new Due();

    private void way(KnifeDesk x, int way, int from, String log, String shares, int unit) {
        String name = "shares(" + way + ", " + from + ")";
        int events = 0;
        for (int i = 0; i < log.length(); i++) {
            events += log.charAt(i) == ';' ? 1 : 0;
        }
        due.is(name, x.shares(way, from), events);
        due.isText("log of " + name, Due.log(x), log);
        due.isText("shares of " + name, Due.shares(x), shares);
        due.is("unit of " + name, x.count(3), unit);
        due.is("events of " + name, x.count(6), events);
        due.is("event(-1, 0) of " + name, x.event(-1, 0), events);
    }

    private void choose() {
        KnifeDesk x = Due.desk(2, 2, "w0:3,5;w1:1,9");
        way(x, 0, 0, "m0 6/5;g1 6/5-2;g0 0-6/5;", "0=0-6/5;1=6/5-2", 5);
        way(x, 0, 1, "m1 13/9;g0 0-13/9;g1 13/9-2;", "0=0-13/9;1=13/9-2", 9);
        way(Due.desk(2, 2, ""), 0, 0, "m0 1;g1 0-1;g0 1-2;", "0=1-2;1=0-1", 1);
        // what is told counts, not what it is worth
        way(Due.desk(2, 2, "t0:0,1;t1:5,0"), 0, 0, "m0 3/2;g1 0-3/2;g0 3/2-2;", "0=3/2-2;1=0-3/2", 2);
        way(Due.desk(2, 2, "w0:0,0"), 0, 0, "m0 0;g1 0-2;g0 0-0;", "0=0-0;1=0-2", 1);
        way(Due.desk(3, 2, "w0:1,0,1;w1:0,1,0"), 0, 0, "m0 1;g1 1-3;g0 0-1;", "0=0-1;1=1-3", 1);
    }

    private void knife() {
        String worths = "w0:1,1,1;w1:3,0,0;w2:0,0,3";
        way(Due.desk(3, 3, worths), 1, 0, "m0 1;m1 1/3;m2 7/3;g1 0-1/3;m0 4/3;m2 7/3;g0 1/3-4/3;g2 4/3-3;",
            "0=1/3-4/3;1=0-1/3;2=4/3-3", 3);
        way(Due.desk(3, 3, worths), 1, 2, "m2 7/3;m0 1;m1 1/3;g1 0-1/3;m2 7/3;m0 4/3;g0 1/3-4/3;g2 4/3-3;",
            "0=1/3-4/3;1=0-1/3;2=4/3-3", 3);
        way(Due.desk(3, 3, ""), 1, 1, "m1 1;m2 1;m0 1;g1 0-1;m2 2;m0 2;g2 1-2;g0 2-3;", "0=2-3;1=0-1;2=1-2", 1);
        way(Due.desk(2, 2, "w0:0,0;w1:0,0"), 1, 1, "m1 0;m0 0;g1 0-0;g0 0-2;", "0=0-2;1=0-0", 1);
    }

    private void diminish() {
        String worths = "w0:1,1,1;w1:3,0,0;w2:0,0,3";
        way(Due.desk(3, 3, worths), 2, 0, "m0 1;t1 1/3;p2;g1 0-1/3;m0 5/3;p2;g0 1/3-5/3;g2 5/3-3;",
            "0=1/3-5/3;1=0-1/3;2=5/3-3", 3);
        way(Due.desk(3, 3, worths), 2, 2, "m2 7/3;t0 1;t1 1/3;g1 0-1/3;m2 5/2;t0 5/3;g0 1/3-5/3;g2 5/3-3;",
            "0=1/3-5/3;1=0-1/3;2=5/3-3", 6);
        way(Due.desk(3, 3, ""), 2, 1, "m1 1;p2;p0;g1 0-1;m2 2;p0;g2 1-2;g0 2-3;", "0=2-3;1=0-1;2=1-2", 1);
        // the rest's part is asked, not the cake's: the second has 3 of 4 left, half of it is 3/2
        way(Due.desk(4, 3, "w0:3,0,0,0;w1:1,1,1,1;w2:1,1,1,1"), 2, 0, "m0 1/3;p1;p2;g0 0-1/3;m1 13/6;p2;g1 1/3-13/6;g2 13/6-4;",
            "0=0-1/3;1=1/3-13/6;2=13/6-4", 6);
    }

    private void halves() {
        String worths = "w1:4,0,0,0;w2:0,0,0,4";
        way(Due.desk(4, 4, worths), 3, 0, "m0 2;m1 1/2;m2 7/2;m3 2;m0 1;m1 1/2;g1 0-1/2;g0 1/2-2;m2 7/2;m3 3;g3 2-3;g2 3-4;",
            "0=1/2-2;1=0-1/2;2=3-4;3=2-3", 2);
        // of like marks the first in order are ahead, from 3 on that is 3
        way(Due.desk(4, 4, worths), 3, 3, "m3 2;m0 2;m1 1/2;m2 7/2;m3 1;m1 1/2;g1 0-1/2;g3 1/2-2;m0 3;m2 7/2;g0 2-3;g2 3-4;",
            "0=2-3;1=0-1/2;2=3-4;3=1/2-2", 2);
        way(Due.desk(6, 3, ""), 3, 1, "m1 2;m2 2;m0 2;g1 0-2;m2 4;m0 4;g2 2-4;g0 4-6;", "0=4-6;1=0-2;2=2-4", 1);
        way(Due.desk(10, 5, ""), 3, 0, "m0 4;m1 4;m2 4;m3 4;m4 4;m0 2;m1 2;g0 0-2;g1 2-4;m2 6;m3 6;m4 6;g2 4-6;m3 8;m4 8;g3 6-8;g4 8-10;",
            "0=0-2;1=2-4;2=4-6;3=6-8;4=8-10", 1);
        way(Due.desk(2, 2, "w0:1,3;w1:3,1"), 3, 0, "m0 4/3;m1 2/3;g1 0-2/3;g0 2/3-2;", "0=2/3-2;1=0-2/3", 3);
    }

    private void trims() {
        way(Due.desk(3, 3, "w0:1,1,1;w1:6,2,0;w2:1,1,4"), 4, 0,
            "m0 1;m0 2;t1 1/3;g2 2-3;g1 0-1/3;g0 1-2;m2 5/9;m2 7/9;g1 1/3-5/9;g0 5/9-7/9;g2 7/9-1;",
            "0=1-2,5/9-7/9;1=0-1/3,1/3-5/9;2=2-3,7/9-1", 9);
        // the third takes what was trimmed: the second parts the trimmings
        way(Due.desk(3, 3, "w0:1,1,1;w1:6,2,0;w2:9,0,0"), 4, 0,
            "m0 1;m0 2;t1 1/3;g2 0-1/3;g1 1-2;g0 2-3;m1 5/9;m1 7/9;g2 1/3-5/9;g0 5/9-7/9;g1 7/9-1;",
            "0=2-3,5/9-7/9;1=1-2,7/9-1;2=0-1/3,1/3-5/9", 9);
        // nothing trimmed
        way(Due.desk(3, 3, "w1:2,2,1;w2:0,0,1"), 4, 0, "m0 1;m0 2;p1;g2 2-3;g1 0-1;g0 1-2;", "0=1-2;1=0-1;2=2-3", 1);
        way(Due.desk(3, 3, "w1:2,2,1;w2:9,8,0"), 4, 0, "m0 1;m0 2;p1;g2 0-1;g1 1-2;g0 2-3;", "0=2-3;1=1-2;2=0-1", 1);
        // trimmed down to nothing, since the others have nothing for the second
        way(Due.desk(3, 3, "w1:0,5,0"), 4, 0, "m0 1;m0 2;t1 1;g2 0-1;g1 1-1;g0 2-3;m2 4/3;m2 5/3;g1 1-4/3;g0 4/3-5/3;g2 5/3-2;",
            "0=2-3,4/3-5/3;1=1-1,1-4/3;2=0-1,5/3-2", 3);
        // in order from another one on: 2 cuts, 0 trims, 1 takes first
        way(Due.desk(3, 3, "w0:1,2,4"), 4, 2, "m2 1;m2 2;t0 5/2;g1 0-1;g0 2-5/2;g2 1-2;m1 8/3;m1 17/6;g0 5/2-8/3;g2 8/3-17/6;g1 17/6-3;",
            "0=2-5/2,5/2-8/3;1=0-1,17/6-3;2=1-2,8/3-17/6", 6);
        // all told as nothing
        way(Due.desk(3, 3, "t0:0,0,0;t1:0,0,0;t2:0,0,0"), 4, 0, "m0 0;m0 0;p1;g2 0-0;g1 0-0;g0 0-3;", "0=0-3;1=0-0;2=0-0", 1);
    }

    private void refused() {
        for (int n = 2; n <= 5; n++) {
            KnifeDesk x = Due.desk(4, n, "");
            x.shares(1, 0);
            int events = x.count(6);
            String shares = Due.shares(x);
            int[][] bad = {{-1, 0}, {5, 0}, {0, -1}, {4, n}, {1, n}, {Integer.MIN_VALUE, 0}, {1, Integer.MAX_VALUE}, {9, 9}};
            for (int[] b : bad) {
                due.is(n + ": shares(" + b[0] + ", " + b[1] + ")", x.shares(b[0], b[1]), BAD);
            }
            if (n != 2) {
                due.is(n + ": two choose", x.shares(0, n - 1), STATE);
            }
            if (n != 3) {
                due.is(n + ": three trim", x.shares(4, 0), STATE);
            }
            due.is(n + ": the log stays", x.count(6), events);
            due.isText(n + ": the division stays", Due.shares(x), shares);
        }
    }

    private void eventIs(KnifeDesk x, int k, long... parts) {
        for (int what = 0; what < 6; what++) {
            due.is("event(" + k + ", " + what + ")", x.event(k, what), parts[what]);
        }
        due.is("event(" + k + ", 6)", x.event(k, 6), NO);
        due.is("event(" + k + ", -1)", x.event(k, -1), NO);
    }

    private void event() {
        due.promise(16);
        KnifeDesk x = Due.desk(3, 3, "w0:1,1,1;w1:3,0,0;w2:0,0,3");
        due.is("no division", x.event(-1, 0), NO);
        due.is("no division", x.event(0, 0), NO);
        x.shares(2, 0);
        eventIs(x, 0, 0, 0, 1, 1, 0, 1);
        eventIs(x, 1, 1, 1, 1, 3, 1, 1);
        eventIs(x, 2, 2, 2, 1, 3, 0, 1);
        eventIs(x, 3, 3, 1, 0, 1, 1, 3);
        eventIs(x, 4, 0, 0, 5, 3, 0, 1);
        eventIs(x, 7, 3, 2, 5, 3, 3, 1);
        eventIs(x, 8, NO, NO, NO, NO, NO, NO);
        eventIs(x, -1, 8, NO, NO, NO, NO, NO);
        eventIs(x, -2, NO, NO, NO, NO, NO, NO);
        due.is("event(most, 0)", x.event(Integer.MAX_VALUE, 0), NO);
        due.is("event(least, 0)", x.event(Integer.MIN_VALUE, 0), NO);
        x = Due.desk(3, 3, "w0:1,1,1;w1:1,5,5");
        x.shares(4, 0);
        eventIs(x, 2, 2, 1, 2, 1, 0, 1);
        x = Due.desk(3, 3, "w0:1,1,1;w1:1,2,4");
        x.shares(4, 0);
        eventIs(x, 2, 1, 1, 5, 2, 3, 1);
        Due.divides(x, "0=0-1");
        due.is("events of a told division", x.event(-1, 0), 0);
        due.is("none of them", x.event(0, 0), NO);
    }

    private void share() {
        due.promise(17);
        KnifeDesk x = Due.desk(3, 3, "w0:1,1,1;w1:6,2,0;w2:1,1,4");
        due.is("no division", x.share(0, -1, 0), NO);
        x.shares(4, 0);
        long[][] due0 = {{1, 1, 2, 1}, {5, 9, 7, 9}};
        for (int k = 0; k < 2; k++) {
            for (int what = 0; what < 4; what++) {
                due.is("share(0, " + k + ", " + what + ")", x.share(0, k, what), due0[k][what]);
            }
        }
        int[][] bad = {{0, 2, 0}, {0, 0, 4}, {0, 0, -1}, {3, 0, 0}, {-1, 0, 0}, {0, -2, 0}, {0, -1, 1}, {0, -1, 3}, {0, -1, 4},
            {0, -1, -1}, {0, Integer.MAX_VALUE, 0}, {0, Integer.MIN_VALUE, 0}, {Integer.MAX_VALUE, 0, 0}};
        for (int[] b : bad) {
            due.is("share(" + b[0] + ", " + b[1] + ", " + b[2] + ")", x.share(b[0], b[1], b[2]), NO);
        }
        Due.divides(x, "1=2-3,0-0");
        due.is("not told: no spans", x.share(0, -1, 0), 0);
        due.is("not told: no span", x.share(0, 0, 0), NO);
        due.is("told: two", x.share(1, -1, 0), 2);
        due.is("as they were told", x.share(1, 1, 2), 0);
        due.is("0 by 1", x.share(1, 1, 3), 1);
    }

    public static void main(String[] args) {
        WaysTest test = new WaysTest();
        test.due.promise(15);
        test.choose();
        test.knife();
        test.diminish();
        test.halves();
        test.trims();
        test.refused();
        test.event();
        test.share();
        test.due.end("WaysTest");
    }
}
