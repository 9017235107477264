/** Promises 15 to 17 at their edges: who of like ones is first, what is just as much, who tells nothing, the logs' ends. */
public final class WaysEdgesTest {
    private static final int LEAST = Integer.MIN_VALUE, MOST = Integer.MAX_VALUE, BAD = KnifeDesk.BAD, STATE = KnifeDesk.STATE;
    private static final long NO = KnifeDesk.NO;
    private final Due due = new Due();

    private void way(int strips, int agents, String worths, int way, int from, String log) {
        KnifeDesk x = Due.desk(strips, agents, worths);
        int events = log.length() - log.replace(";", "").length();
        String name = "shares(" + way + ", " + from + ") of " + worths;
        due.is(name, x.shares(way, from), events);
        due.isText("the log of " + name, Due.log(x), log);
    }

    private void refused() {
        due.sentence(15, "BAD; STATE: n does not allow the way");
        for (int agents = 2; agents <= 5; agents++) {
            for (int way : new int[] {LEAST, -1, 0, 1, 2, 3, 4, 5, MOST}) {
                for (int from : new int[] {LEAST, -1, 0, agents - 1, agents, 5, MOST}) {
                    KnifeDesk x = Due.desk(3, agents, "");
                    String name = agents + " agents: shares(" + way + ", " + from + ")";
                    int answer = x.shares(way, from);
                    if (way < 0 || way > 4 || from < 0 || from >= agents) {
                        due.is(name, answer, BAD);
                    } else if (way == 0 && agents != 2 || way == 4 && agents != 3) {
                        due.is(name, answer, STATE);
                    } else {
                        due.is(name + " is done", answer > 0 ? 1 : 0, 1);
                    }
                    due.is("a division behind " + name, x.count(2), answer > 0 ? 1 : 0);
                    due.is("events behind " + name, x.count(6), Math.max(0, answer));
                }
            }
        }
        due.sentence(15, "how many EVENTS");
        int[][] events = {{3, 4, 4, 4, STATE}, {STATE, 8, 8, 8, 6}, {STATE, 13, 13, 12, STATE}, {STATE, 19, 19, 17, STATE}};
        for (int agents = 2; agents <= 5; agents++) {
            for (int way = 0; way < 5; way++) {
                // a cake of 1s that all tell alike
                KnifeDesk x = Due.desk(6, agents, "");
                due.is(agents + " agents: shares(" + way + ", 0)", x.shares(way, 0), events[agents - 2][way]);
            }
        }
        due.sentence(15, "THE DIVISION, THE LOG are what comes of it");
        KnifeDesk x = Due.desk(5, 5, "");
        x.shares(1, 0);
        x.shares(3, 0);
        due.is("a shorter log leaves nothing of the longer one", x.event(17, 0), NO);
        due.is("its last event", x.event(16, 0), 3);
        Due.divides(x, "0=0-1,1-2;1=2-3,3-4");
        x.shares(2, 1);
        due.isText("nor of what was told", Due.shares(x), "0=4-5;1=0-1;2=1-2;3=2-3;4=3-4");
    }

    private void order() {
        due.sentence(15, "ORDER: AGENTS from a told one on, by numbers, behind the last AGENT 0, and so on");
        way(2, 2, "", 0, 1, "m1 1;g0 0-1;g1 1-2;");
        way(5, 5, "", 1, 4, "m4 1;m0 1;m1 1;m2 1;m3 1;g4 0-1;m0 2;m1 2;m2 2;m3 2;g0 1-2;m1 3;m2 3;m3 3;g1 2-3;m2 4;m3 4;g2 3-4;g3 4-5;");
        way(5, 5, "", 2, 4, "m4 1;p0;p1;p2;p3;g4 0-1;m0 2;p1;p2;p3;g0 1-2;m1 3;p2;p3;g1 2-3;m2 4;p3;g2 3-4;g3 4-5;");
        way(10, 5, "", 3, 4, "m4 4;m0 4;m1 4;m2 4;m3 4;m4 2;m0 2;g4 0-2;g0 2-4;m1 6;m2 6;m3 6;g1 4-6;m2 8;m3 8;g2 6-8;g3 8-10;");
        way(4, 4, "", 3, 2, "m2 2;m3 2;m0 2;m1 2;m2 1;m3 1;g2 0-1;g3 1-2;m0 3;m1 3;g0 2-3;g1 3-4;");
        way(3, 3, "", 4, 1, "m1 1;m1 2;p2;g0 0-1;g2 1-2;g1 2-3;");
        way(3, 3, "", 4, 2, "m2 1;m2 2;p0;g1 0-1;g0 1-2;g2 2-3;");
    }

    private void choose() {
        due.sentence(15, "CHOOSE: that side that has more for it, the first of like ones");
        way(2, 2, "t1:5,5", 0, 0, "m0 1;g1 0-1;g0 1-2;");
        way(2, 2, "t1:5,4", 0, 0, "m0 1;g1 0-1;g0 1-2;");
        way(2, 2, "t1:4,5", 0, 0, "m0 1;g1 1-2;g0 0-1;");
        way(2, 2, "t1:0,0", 0, 0, "m0 1;g1 0-1;g0 1-2;");
        due.sentence(15, "CHOOSE: who tells nothing MARKS 0");
        way(2, 2, "t0:0,0", 0, 0, "m0 0;g1 0-2;g0 0-0;");
        way(2, 2, "t0:0,0;t1:0,0", 0, 0, "m0 0;g1 0-0;g0 0-2;");
        due.sentence(15, "the least POINT");
        way(4, 2, "t0:3,0,0,3;t1:0,1,0,0", 0, 0, "m0 1;g1 1-4;g0 0-1;");
        way(16, 2, "t0:0,0,0,0,0,0,0,0,0,0,0,0,0,0,0,9", 0, 0, "m0 31/2;g1 0-31/2;g0 31/2-16;");
    }

    private void knife() {
        due.sentence(15, "KNIFE: whose POINT is the least (of several the first in ORDER)");
        way(3, 3, "t0:0,3,0;t1:3,0,0;t2:3,0,0", 1, 0, "m0 4/3;m1 1/3;m2 1/3;g1 0-1/3;m0 4/3;m2 2/3;g2 1/3-2/3;g0 2/3-3;");
        way(3, 3, "t0:0,3,0;t1:3,0,0;t2:3,0,0", 1, 2, "m2 1/3;m0 4/3;m1 1/3;g2 0-1/3;m0 4/3;m1 2/3;g1 1/3-2/3;g0 2/3-3;");
        due.sentence(15, "KNIFE: who tells nothing MARKS REST's beginning");
        way(3, 3, "t2:0,0,0", 1, 0, "m0 1;m1 1;m2 0;g2 0-0;m0 1;m1 1;g0 0-1;g1 1-3;");
        way(2, 5, "t0:0,0;t1:0,0;t2:0,0;t3:0,0;t4:0,0", 1, 3,
            "m3 0;m4 0;m0 0;m1 0;m2 0;g3 0-0;m4 0;m0 0;m1 0;m2 0;g4 0-0;m0 0;m1 0;m2 0;g0 0-0;m1 0;m2 0;g1 0-0;g2 0-2;");
        due.sentence(15, "KNIFE: THE CAKE's by n, as many as there are, not as are left");
        way(4, 2, "t0:1,0,0,1;t1:0,1,1,0", 1, 0, "m0 1;m1 2;g0 0-1;g1 1-4;");
        way(4, 4, "t1:9,0,0,0", 1, 0, "m0 1;m1 1/4;m2 1;m3 1;g1 0-1/4;m0 5/4;m2 5/4;m3 5/4;g0 1/4-5/4;m2 9/4;m3 9/4;g2 5/4-9/4;g3 9/4-4;");
        due.sentence(15, "KNIFE: The last takes REST");
        // just as much as is left: the mark is the rest's end
        way(2, 2, "t0:0,1;t1:0,1", 1, 0, "m0 3/2;m1 3/2;g0 0-3/2;g1 3/2-2;");
    }

    private void diminish() {
        due.sentence(15, "DIMINISH: if THE PIECE has more for it than REST's by k, it TRIMS; else it PASSES");
        way(2, 2, "t1:5,5", 2, 0, "m0 1;p1;g0 0-1;g1 1-2;");
        way(2, 2, "t1:5,4", 2, 0, "m0 1;t1 9/10;g1 0-9/10;g0 9/10-2;");
        way(2, 2, "t1:4,5", 2, 0, "m0 1;p1;g0 0-1;g1 1-2;");
        due.sentence(15, "DIMINISH: Who MARKED or TRIMMED last takes THE PIECE");
        way(4, 4, "t1:2,1,1,1;t2:5,1,1,1;t3:5,1,1,1", 2, 0,
            "m0 1;t1 5/8;t2 2/5;p3;g2 0-2/5;m0 8/5;t1 6/5;t3 4/5;g3 2/5-4/5;m0 12/5;t1 23/10;g1 4/5-23/10;g0 23/10-4;");
        due.sentence(15, "DIMINISH: who tells nothing");
        way(3, 3, "t0:0,0,0", 2, 0, "m0 0;p1;p2;g0 0-0;m1 3/2;p2;g1 0-3/2;g2 3/2-3;");
        way(3, 3, "t1:0,0,0", 2, 0, "m0 1;p1;p2;g0 0-1;m1 1;p2;g1 1-1;g2 1-3;");
        way(2, 3, "t0:0,0;t1:0,0;t2:0,0", 2, 1, "m1 0;p2;p0;g1 0-0;m2 0;p0;g2 0-0;g0 0-2;");
        due.sentence(15, "DIMINISH: REST's by k, of what is left for as many as are left");
        way(3, 3, "t1:0,0,3;t2:0,0,3", 2, 0, "m0 1;p1;p2;g0 0-1;m1 5/2;p2;g1 1-5/2;g2 5/2-3;");
    }

    private void halves() {
        due.sentence(15, "HALVES: m is k by 2, cut");
        way(6, 2, "", 3, 0, "m0 3;m1 3;g0 0-3;g1 3-6;");
        way(6, 3, "", 3, 0, "m0 2;m1 2;m2 2;g0 0-2;m1 4;m2 4;g1 2-4;g2 4-6;");
        way(8, 4, "", 3, 0, "m0 4;m1 4;m2 4;m3 4;m0 2;m1 2;g0 0-2;g1 2-4;m2 6;m3 6;g2 4-6;g3 6-8;");
        way(10, 5, "", 3, 0, "m0 4;m1 4;m2 4;m3 4;m4 4;m0 2;m1 2;g0 0-2;g1 2-4;m2 6;m3 6;m4 6;g2 4-6;m3 8;m4 8;g3 6-8;g4 8-10;");
        due.sentence(15, "HALVES: By POINTS, of like ones by ORDER");
        way(4, 4, "t0:0,0,0,4;t1:0,2,2,0;t3:0,2,2,0", 3, 3, "m3 2;m0 7/2;m1 2;m2 2;m3 3/2;m1 3/2;g3 0-3/2;g1 3/2-2;m0 7/2;m2 3;g2 2-3;g0 3-4;");
        way(4, 4, "t0:0,0,0,4;t1:0,2,2,0;t3:0,2,2,0", 3, 0, "m0 7/2;m1 2;m2 2;m3 2;m1 3/2;m2 1;g2 0-1;g1 1-2;m0 7/2;m3 5/2;g3 2-5/2;g0 5/2-4;");
        due.sentence(15, "HALVES: the SPAN up to the POINT of the last of these m");
        way(4, 4, "t2:8,0,0,0;t3:0,8,0,0", 3, 0, "m0 2;m1 2;m2 1/2;m3 3/2;m2 1/2;m3 5/4;g2 0-1/2;g3 1/2-3/2;m0 11/4;m1 11/4;g0 3/2-11/4;g1 11/4-4;");
        due.sentence(15, "HALVES: who tells nothing");
        way(2, 2, "t1:0,0", 3, 0, "m0 1;m1 0;g1 0-0;g0 0-2;");
        way(2, 4, "t0:0,0;t1:0,0;t2:0,0;t3:0,0", 3, 2, "m2 0;m3 0;m0 0;m1 0;m2 0;m3 0;g2 0-0;g3 0-0;m0 0;m1 0;g0 0-0;g1 0-2;");
        // nothing is left for the second of the first two: it marks the beginning of what they share
        way(4, 4, "t0:0,0,0,4;t1:0,0,0,4", 3, 0, "m0 7/2;m1 7/2;m2 2;m3 2;m2 1;m3 1;g2 0-1;g3 1-2;m0 7/2;m1 7/2;g0 2-7/2;g1 7/2-4;");
        due.sentence(15, "HALVES: the first m by POINTS go on ahead of the others");
        way(6, 3, "t0:0,0,0,0,0,6;t1:0,0,0,0,6,0", 3, 0, "m0 16/3;m1 13/3;m2 2;g2 0-2;m0 11/2;m1 9/2;g1 2-9/2;g0 9/2-6;");
    }

    private void trims() {
        due.sentence(15, "TRIMS: G is the PIECE with most for it, of several the first, H of the others likewise");
        way(3, 3, "t1:5,5,5;t2:0,0,0", 4, 0, "m0 1;m0 2;p1;g2 0-1;g1 1-2;g0 2-3;");
        due.is("the piece that is passed", passed("t1:5,5,5"), 1);
        due.is("the piece that is passed", passed("t1:4,5,5"), 2);
        due.is("the piece that is passed", passed("t1:5,4,5"), 1);
        due.is("the piece that is passed", passed("t1:0,0,0"), 1);
        due.sentence(15, "TRIMS: if G has more for it than H");
        way(3, 3, "t1:4,3,4;t2:0,0,0", 4, 0, "m0 1;m0 2;p1;g2 0-1;g1 2-3;g0 1-2;");
        // z tells nothing of the trimmings and marks both thirds where they begin: the last part is all of them
        way(3, 3, "t1:5,3,4;t2:0,0,9", 4, 0, "m0 1;m0 2;t1 4/5;g2 2-3;g1 0-4/5;g0 1-2;m2 4/5;m2 4/5;g1 4/5-1;g0 4/5-4/5;g2 4/5-4/5;");
        due.sentence(15, "TRIMS: z takes the PIECE that has most for it, of several the first");
        way(3, 3, "t2:4,4,4", 4, 0, "m0 1;m0 2;p1;g2 0-1;g1 1-2;g0 2-3;");
        way(3, 3, "t2:4,5,5", 4, 0, "m0 1;m0 2;p1;g2 1-2;g1 0-1;g0 2-3;");
        way(3, 3, "t2:4,4,5", 4, 0, "m0 1;m0 2;p1;g2 2-3;g1 0-1;g0 1-2;");
        due.sentence(15, "TRIMS: y then G, if it was TRIMMED and is left");
        // what y trimmed has just as much for it as an earlier piece
        way(3, 3, "t1:2,2,5;t2:0,1,0", 4, 0, "m0 1;m0 2;t1 12/5;g2 1-2;g1 2-12/5;g0 0-1;m2 12/5;m2 12/5;g1 12/5-3;g0 12/5-12/5;g2 12/5-12/5;");
        due.sentence(15, "TRIMS: else of those left that with most for it, of several the first");
        way(3, 3, "t1:3,1,3;t2:9,0,0", 4, 0, "m0 1;m0 2;p1;g2 0-1;g1 2-3;g0 1-2;");
        way(3, 3, "t1:3,3,3;t2:9,0,0", 4, 0, "m0 1;m0 2;p1;g2 0-1;g1 1-2;g0 2-3;");
        way(3, 3, "t1:3,1,2;t2:9,0,0", 4, 0, "m0 1;m0 2;t1 2/3;g2 0-2/3;g1 2-3;g0 1-2;m1 7/9;m1 8/9;g2 2/3-7/9;g0 7/9-8/9;g1 8/9-1;");
        due.sentence(15, "TRIMS: of the three parts P takes that with most for it, of several the first, then x of the two left likewise, then Q the last");
        // x has nothing of strip 1, so it wants the last part, which the other two have not more of
        way(4, 3, "t0:1,0,1,1;t1:1,6,0,1;t2:9,3,0,0", 4, 0,
            "m0 1;m0 3;t1 7/6;g2 0-1;g1 1-7/6;g0 3-4;m2 13/9;m2 31/18;g1 7/6-13/9;g0 31/18-3;g2 13/9-31/18;");
        // P has most of the last part
        way(4, 3, "t0:1,0,1,1;t1:1,3,3,1;t2:9,3,0,0", 4, 0,
            "m0 1;m0 3;t1 4/3;g2 0-1;g1 1-4/3;g0 3-4;m2 14/9;m2 16/9;g1 16/9-3;g0 4/3-14/9;g2 14/9-16/9;");
        due.sentence(15, "TRIMS: who tells nothing");
        way(3, 3, "t0:0,0,0", 4, 0, "m0 0;m0 0;t1 0;g2 0-0;g1 0-0;g0 0-0;m2 1;m2 2;g1 0-1;g0 1-2;g2 2-3;");
        way(3, 3, "t0:0,0,0;t1:0,0,0", 4, 0, "m0 0;m0 0;p1;g2 0-3;g1 0-0;g0 0-0;");
        way(3, 3, "t0:0,0,0;t2:0,0,0", 4, 0, "m0 0;m0 0;t1 0;g2 0-0;g1 0-0;g0 0-0;m2 0;m2 0;g1 0-3;g0 0-0;g2 0-0;");
        way(3, 3, "t1:0,0,0;t2:0,0,0", 4, 0, "m0 1;m0 2;p1;g2 0-1;g1 1-2;g0 2-3;");
    }

    /** Where the piece ends that the second of three passes: of three pieces, each a strip. */
    private static long passed(String worths) {
        KnifeDesk x = Due.desk(3, 3, worths);
        x.shares(4, 0);
        return x.event(2, 0) == 2 ? x.event(2, 2) : -1;
    }

    /** All that two, or three, can tell of two strips, by few numbers: who of like ones is first shows here. */
    private void small() {
        due.sentence(15, "all ways, by all that can be told");
        for (int told = 0; told < 81; told++) {
            small(2, told, 3);
        }
        for (int told = 0; told < 64; told++) {
            small(3, told, 2);
        }
    }

    private void small(int agents, int told, int numbers) {
        KnifeDesk x = Due.desk(2, agents, "");
        Oracle o = new Oracle();
        o.begin(2, agents);
        int left = told;
        for (int i = 0; i < agents; i++) {
            for (int s = 0; s < 2; s++) {
                x.tells(i, s, left % numbers);
                o.tells(i, s, left % numbers);
                left /= numbers;
            }
        }
        for (int way = 0; way < 5; way++) {
            int from = (told + way) % agents;
            String name = "shares(" + way + ", " + from + ") of " + agents + ", " + told;
            due.is(name, x.shares(way, from), o.shares(way, from));
            if (x.count(2) == 1) {
                o.prints();
                due.isText("the log of " + name, Due.log(x), o.paper());
                due.is("the unit of " + name, x.count(3), o.count(3));
            }
        }
    }

    private void event() {
        due.sentence(16, "k -1: how many EVENTS (what 0)");
        KnifeDesk x = Due.desk(5, 5, "");
        due.is("no division", x.event(-1, 0), NO);
        x.shares(1, 0);
        due.is("event(-1, 0)", x.event(-1, 0), 19);
        due.sentence(16, "event(-1, what) with a what above 0: NO");
        for (int what : new int[] {-1, 1, 2, 3, 4, 5, 6, LEAST, MOST}) {
            due.is("event(-1, " + what + ")", x.event(-1, what), NO);
        }
        due.sentence(16, "NOT");
        due.is("the last", x.event(18, 1), 4);
        due.is("behind the last", x.event(19, 1), NO);
        due.is("far behind", x.event(MOST, 1), NO);
        due.is("event(-2, 0)", x.event(-2, 0), NO);
        due.is("event(least, 0)", x.event(LEAST, 0), NO);
        due.sentence(16, "0 what it is .. 4 and 5 another one");
        long[] last = {3, 4, 4, 1, 5, 1};
        for (int what = 0; what < 6; what++) {
            due.is("event(18, " + what + ")", x.event(18, what), last[what]);
        }
        due.is("what -1", x.event(18, -1), NO);
        due.is("what 6", x.event(18, 6), NO);
        due.sentence(16, "0 and 1 of MARKS, PASSES");
        x.shares(2, 0);
        eventIs(x, 0, 0, 0, 1, 1, 0, 1);
        eventIs(x, 1, 2, 1, 1, 1, 0, 1);
        due.sentence(16, "a POINT above and below the line (0: 0 by 1)");
        x = Due.desk(2, 2, "t0:0,0");
        x.shares(1, 0);
        eventIs(x, 0, 0, 0, 0, 1, 0, 1);
        eventIs(x, 2, 3, 0, 0, 1, 0, 1);
        due.sentence(16, "PASSES: where what it doesn't trim ends");
        x = Due.desk(3, 3, "t0:0,1,1;t1:3,0,0");
        x.shares(2, 0);
        eventIs(x, 2, 2, 2, 1, 3, 0, 1);
        due.sentence(16, "TRIMS: where what it trims ended");
        eventIs(x, 1, 1, 1, 1, 3, 5, 3);
        x = Due.desk(4, 3, "t0:1,1,1,1;t1:2,1,1,1;t2:5,1,1,1");
        x.shares(2, 0);
        eventIs(x, 1, 1, 1, 5, 6, 4, 3);
        eventIs(x, 2, 1, 2, 8, 15, 5, 6);
        due.sentence(16, "PASSES: TRIMS' y: G");
        x = Due.desk(3, 3, "t1:0,4,4");
        x.shares(4, 0);
        eventIs(x, 2, 2, 1, 2, 1, 0, 1);
        due.sentence(16, "TRIMS: of G, from where it is trimmed to where it ended");
        x = Due.desk(3, 3, "t1:0,2,4");
        x.shares(4, 0);
        eventIs(x, 2, 1, 1, 5, 2, 3, 1);
        due.sentence(16, "THE LOG of a told DIVISION is empty");
        Due.divides(x, "0=0-1");
        due.is("event(-1, 0)", x.event(-1, 0), 0);
        due.is("event(0, 0)", x.event(0, 0), NO);
    }

    private void eventIs(KnifeDesk x, int k, long... parts) {
        for (int what = 0; what < 6; what++) {
            due.is("event(" + k + ", " + what + ")", x.event(k, what), parts[what]);
        }
    }

    private void share() {
        due.sentence(17, "NO: STATE");
        KnifeDesk x = Due.desk(3, 3, "t1:3,1,2;t2:9,0,0");
        due.is("share(0, -1, 0)", x.share(0, -1, 0), NO);
        due.is("share(0, 0, 0)", x.share(0, 0, 0), NO);
        x.shares(4, 0);
        due.sentence(17, "SPANS as they were taken (two at most)");
        // see the trims above
        String[] spans = {"1-2 7/9-8/9", "2-3 8/9-1", "0-2/3 2/3-7/9"};
        for (int i = 0; i < 3; i++) {
            due.is("spans of " + i, x.share(i, -1, 0), 2);
            due.isText("spans of " + i, span(x, i, 0) + " " + span(x, i, 1), spans[i]);
            due.is("no third one of " + i, x.share(i, 2, 0), NO);
        }
        due.sentence(17, "where it begins above, below the line (what 0, 1), where it ends (2, 3)");
        due.is("what -1", x.share(0, 0, -1), NO);
        due.is("what 4", x.share(0, 0, 4), NO);
        due.sentence(17, "share(.., -1, what) with a what above 0: NO");
        for (int what : new int[] {-1, 1, 2, 3, 4, LEAST, MOST}) {
            due.is("share(0, -1, " + what + ")", x.share(0, -1, what), NO);
        }
        due.sentence(17, "BAD");
        due.is("agent -1", x.share(-1, 0, 0), NO);
        due.is("agent 3", x.share(3, 0, 0), NO);
        due.is("k -2", x.share(0, -2, 0), NO);
        due.is("k least", x.share(0, LEAST, 0), NO);
        due.is("k most", x.share(0, MOST, 0), NO);
        due.sentence(17, "NOT");
        x.shares(1, 0);
        due.is("one span", x.share(2, -1, 0), 1);
        due.is("no second one", x.share(2, 1, 0), NO);
        due.sentence(17, "An empty SPAN that is taken counts in SHARE");
        x = Due.desk(2, 2, "t0:0,0");
        x.shares(1, 0);
        due.is("one", x.share(0, -1, 0), 1);
        due.isText("from 0 by 1 to 0 by 1", span(x, 0, 0), "0-0");
        due.is("0 by 1", x.share(0, 0, 1), 1);
        due.is("0 by 1", x.share(0, 0, 3), 1);
        Due.divides(x, "1=2-2,1-1");
        due.is("told ones", x.share(1, -1, 0), 2);
        due.isText("as told", span(x, 1, 0) + " " + span(x, 1, 1), "2-2 1-1");
        due.is("none", x.share(0, -1, 0), 0);
        due.is("none of them", x.share(0, 0, 0), NO);
    }

    private static String span(KnifeDesk x, int agent, int k) {
        StringBuilder text = new StringBuilder();
        for (int what = 0; what < 4; what++) {
            long v = x.share(agent, k, what);
            text.append(what == 2 ? "-" : what % 2 == 1 && v == 1 ? "" : what % 2 == 1 ? "/" : "").append(what % 2 == 1 && v == 1 ? "" : "" + v);
        }
        return text.toString();
    }

    public static void main(String[] args) {
        WaysEdgesTest test = new WaysEdgesTest();
        test.refused();
        test.order();
        test.choose();
        test.knife();
        test.diminish();
        test.halves();
        test.trims();
        test.small();
        test.event();
        test.share();
        test.due.end("WaysEdgesTest");
    }
}
