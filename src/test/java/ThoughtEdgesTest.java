/** Promises 24 to 26 at their edges: worths 0 and 9 that can't be told less or more, like ones, none at all. */
public final class ThoughtEdgesTest {
    private static final int LEAST = Integer.MIN_VALUE, MOST = Integer.MAX_VALUE, BAD = KnifeDesk.BAD;
    private static final long NO = KnifeDesk.NO;
    private final Due due = new Due();

    private static boolean allowed(int way, int agents) {
        return way >= 0 && way <= 4 && (way != 0 || agents == 2) && (way != 4 || agents == 3);
    }

    private void refused() {
        String[] parts = {"1", "2/3", "1/2", "2/5"};
        for (int agents = 2; agents <= 5; agents++) {
            KnifeDesk x = Due.desk(2, agents, "");
            for (int way : new int[] {LEAST, -1, 0, 1, 2, 3, 4, 5, MOST}) {
                due.sentence(24, "NO");
                boolean done = allowed(way, agents);
                due.is("would of way " + way + " of " + agents, x.would(way, 0, 0, 0) == NO ? 1 : 0, done ? 0 : 1);
                due.is("would of way " + way + " of " + agents + ", below", x.would(way, 0, 0, 1) == NO ? 1 : 0, done ? 0 : 1);
                due.sentence(25, "NO: BAD, STATE");
                // all tell alike, and as it is: there is no lie either
                due.is("lie of way " + way + " of " + agents, x.lie(way, 0, 0, 0) == NO || done ? 1 : 0, 1);
            }
            for (int wrong : new int[] {LEAST, -1, agents, 5, MOST}) {
                due.sentence(24, "AGENTS 0 .. n - 1");
                due.is("would from " + wrong, x.would(1, wrong, 0, 0), NO);
                due.is("would of " + wrong, x.would(1, 0, wrong, 0), NO);
                due.sentence(25, "AGENTS 0 .. n - 1");
                due.is("lie from " + wrong, x.lie(1, wrong, 0, 0), NO);
                due.is("lie of " + wrong, x.lie(1, 0, wrong, 0), NO);
                due.sentence(26, "AGENTS 0 .. n - 1: BAD");
                due.is("best of " + wrong, x.best(wrong, 0), BAD);
                due.is("best from " + wrong, x.best(0, wrong), BAD);
            }
            due.sentence(24, "AGENTS 0 .. n - 1");
            due.isText("would of the last from the last", Due.would(x, 1, agents - 1, agents - 1), parts[agents - 2]);
            due.sentence(26, "AGENTS 0 .. n - 1");
            due.is("best of the last from the last", x.best(agents - 1, agents - 1), agents == 2 ? 0 : 1);
        }
    }

    private void would() {
        due.sentence(24, "above, below (part)");
        KnifeDesk x = Due.desk(2, 2, "w0:3,5;w1:1,9");
        due.is("above", x.would(0, 0, 1, 0), 36);
        due.is("below", x.would(0, 0, 1, 1), 5);
        due.is("part -1", x.would(0, 0, 1, -1), NO);
        due.is("part 2", x.would(0, 0, 1, 2), NO);
        due.sentence(24, "WORTH of its SHARE (0: 0 by 1)");
        x = Due.desk(2, 2, "t0:0,0");
        due.is("an empty share, above", x.would(1, 0, 0, 0), 0);
        due.is("an empty share, below", x.would(1, 0, 0, 1), 1);
        due.isText("all of it", Due.would(x, 1, 0, 1), "2");
        x = Due.desk(2, 2, "w1:0,0;t1:1,1");
        due.isText("worth nothing", Due.would(x, 1, 0, 1), "0");
        due.sentence(24, "two SPANS of a SHARE together");
        x = Due.desk(3, 3, "t1:3,1,2;t2:9,0,0");
        // 2/3 to 7/9 behind 0 to 2/3
        due.isText("by trims", Due.would(x, 4, 0, 2), "7/9");
        due.isText("by trims", Due.would(x, 4, 0, 1), "10/9");
        due.isText("by trims", Due.would(x, 4, 0, 0), "10/9");
        due.sentence(24, "leave THE LOG, THE DIVISION, THE PAPER");
        due.is("no division comes of it", x.count(2), 0);
        due.is("no events", x.count(6), 0);
        due.is("no paper", x.paper(-1), 0);
    }

    private void lieIs(String worths, int way, int from, int agent, long strips, String worth) {
        lieIs(Due.desk(worths.indexOf(';') / 2 - 1, 2, worths), way, from, agent, strips, worth);
    }

    private void lieIs(KnifeDesk x, int way, int from, int agent, long strips, String worth) {
        String before = Seen.cake(x);
        due.is("lie(" + way + ", " + from + ", " + agent + ", 0) of " + before, x.lie(way, from, agent, 0), strips);
        long above = x.lie(way, from, agent, 1);
        long below = x.lie(way, from, agent, 2);
        due.isText("its worth", above == NO && below == NO ? "NO" : below == 1 ? "" + above : above + "/" + below, worth);
        due.isText("all is told as before", Seen.cake(x), before);
        due.is("no division comes of it", x.count(2), 0);
    }

    private void lie() {
        // the one who cuts has all that is up to its mark: the other one wants the last strip
        due.sentence(25, "it TELLS 1 less of one STRIP and 1 more of another one (0 .. 9 as ever)");
        // 1 becomes 0: the mark goes from 3 7/16 to 3 9/16
        lieIs(cutter("t0:1,0,0,8,0"), 0, 0, 0, 4, "57/16");
        // 0 can't be told less: 1 less of strip 3 is the best
        lieIs(cutter("t0:0,0,0,8,1"), 0, 0, 0, 304, "51/14");
        // 8 becomes 9
        lieIs(cutter("t0:2,0,0,8,8"), 0, 0, 0, 4, "4");
        // 9 can't be told more
        lieIs(cutter("t0:2,0,0,7,9"), 0, 0, 0, NO, "NO");
        lieIs(cutter("t0:1,0,0,8,9"), 0, 0, 0, NO, "NO");
        // nothing to tell less of, nothing to tell more of
        lieIs("w0:0,0,0;w1:1,2,3", 1, 0, 0, NO, "NO");
        lieIs("w0:9,9,9;w1:9,8,7", 1, 0, 0, NO, "NO");
        due.sentence(25, "LIES are told, WORTHS stay");
        // what is told is told less and more, whatever it is worth: strip 0 is worth 0, strip 4 is worth 9
        KnifeDesk x = Due.desk(5, 2, "w0:0,1,1,1,9;t0:1,0,0,8,0;t1:0,0,0,0,9");
        lieIs(x, 0, 0, 0, 4, "41/16");
        // the share's worth is by worths: strip 4 has 9 of it, which the lie doesn't get
        x = cutter("t0:1,0,0,8,0");
        Due.worths(x, "w0:5,0,0,4,9;t0:1,0,0,8,0");
        lieIs(x, 0, 0, 0, 4, "29/4");
        due.sentence(25, "more than as it TELLS");
        lieIs("w0:1,1;w1:1,1", 0, 1, 0, NO, "NO");
        // whatever it tells, it takes the same side
        lieIs("w0:1,9;w1:5,5", 0, 1, 0, NO, "NO");
        // it has nothing at all to win
        lieIs(Due.desk(3, 2, "w0:0,0,0;t0:3,4,5"), 1, 0, 0, NO, "NO");
        due.sentence(25, "of several the first by the STRIP with less, then by that with more");
        // strips 0, 1 and 2 lie all ahead of the mark, 4 and 5 behind it
        x = Due.desk(6, 2, "t0:1,1,1,1,1,1;t1:0,0,0,0,0,9");
        lieIs(x, 0, 0, 0, 4, "4");
        x.tells(0, 0, 0);
        x.tells(0, 3, 2);
        lieIs(x, 0, 0, 0, 104, "4");
        // 2 by both: told 0,4 it gets 1 of strip 1, and of the trimmings what else is of strip 1; told 2,2 nothing is trimmed
        x = Due.desk(2, 3, "w0:1,3");
        due.isText("as it tells", Due.would(x, 4, 0, 0), "16/9");
        lieIs(x, 4, 0, 0, 1, "2");
        x.tells(0, 0, 2);
        x.tells(0, 1, 2);
        due.isText("by the other lie", Due.would(x, 4, 0, 0), "2");
        due.sentence(25, "100 times the STRIP with less and the one with more");
        x = Due.desk(16, 2, "t0:0,0,0,0,0,0,0,0,0,0,0,0,0,0,8,1;t1:0,0,0,0,0,0,0,0,0,0,0,0,0,0,0,9");
        lieIs(x, 0, 0, 0, 1415, "205/14");
        // the right side is left for the one who cuts: the mark comes from 15 4/9 to 15 3/8
        x = Due.desk(16, 2, "t0:0,0,0,0,0,0,0,0,0,0,0,0,0,0,1,9;t1:9,0,0,0,0,0,0,0,0,0,0,0,0,0,0,0");
        lieIs(x, 0, 0, 0, 1500, "5/8");
        lieIs("w0:1,9;w1:9,1", 0, 0, 0, 100, "45/8");
        due.sentence(25, "(what 0), WORTH of its SHARE by it above, below (1, 2)");
        x = cutter("t0:1,0,0,8,0");
        due.is("what -1", x.lie(0, 0, 0, -1), NO);
        due.is("what 3", x.lie(0, 0, 0, 3), NO);
        due.is("what 1", x.lie(0, 0, 0, 1), 57);
        due.is("what 2", x.lie(0, 0, 0, 2), 16);
        small();
    }

    private static KnifeDesk cutter(String told) {
        return Due.desk(5, 2, told + ";t1:0,0,0,0,9");
    }

    /** All that two can tell of two strips by 0, 1, 8, 9, against the second reckoning. */
    private void small() {
        int[] numbers = {0, 1, 8, 9};
        for (int told = 0; told < 256; told++) {
            KnifeDesk x = Due.desk(2, 2, "w0:2,7;w1:5,1");
            Oracle o = new Oracle();
            o.begin(2, 2);
            int[] worths = {2, 7, 5, 1};
            for (int k = 0; k < 4; k++) {
                o.worth(k / 2, k % 2, worths[k]);
                x.tells(k / 2, k % 2, numbers[told >> 2 * k & 3]);
                o.tells(k / 2, k % 2, numbers[told >> 2 * k & 3]);
            }
            for (int way = 0; way < 4; way++) {
                for (int agent = 0; agent < 2; agent++) {
                    for (int what = 0; what < 3; what++) {
                        due.sentence(25, "BEST LIE");
                        due.is("lie(" + way + ", 0, " + agent + ", " + what + ") of " + told, x.lie(way, 0, agent, what), o.lie(way, 0, agent, what));
                    }
                }
            }
            due.sentence(26, "BEST WAY");
            due.is("best(0, 1) of " + told, x.best(0, 1), o.best(0, 1));
            due.is("best(1, 1) of " + told, x.best(1, 1), o.best(1, 1));
        }
    }

    private void bestIs(int strips, int agents, String worths, int agent, int from, int way) {
        KnifeDesk x = Due.desk(strips, agents, worths);
        due.is("best(" + agent + ", " + from + ") of " + worths, x.best(agent, from), way);
        due.is("no division comes of it", x.count(2), 0);
    }

    private void best() {
        due.sentence(26, "that which brings it most, of several the first");
        // 3/2 by all
        bestIs(3, 2, "w0:0,3,0;w1:3,2,3", 0, 0, 0);
        // 3/2 to choose, 5/2 by all others
        bestIs(3, 2, "w0:0,1,2;w1:0,2,0", 0, 0, 1);
        // 3/2, 11/6, 11/6, 5/3
        bestIs(3, 3, "w0:3,1,1;w1:3,1,0;w2:1,1,2", 0, 0, 2);
        // 7/3, 7/3, 7/2, 7/3
        bestIs(3, 3, "w0:2,2,3;w1:0,1,2;w2:0,0,0", 0, 0, 3);
        // 1, 1, 1, 23/18
        bestIs(3, 3, "w0:2,1,0;w1:3,3,1;w2:2,3,2", 0, 0, 4);
        due.sentence(26, "of those that n allows");
        for (int agents = 2; agents <= 5; agents++) {
            bestIs(4, agents, "", 0, agents - 1, agents == 2 ? 0 : 1);
            bestIs(4, agents, "", agents - 1, 0, agents == 2 ? 0 : 1);
            // nothing is worth anything: all bring 0
            bestIs(2, agents, "w0:0,0", 0, 0, agents == 2 ? 0 : 1);
        }
        due.sentence(26, "in ORDER from one on");
        // from itself on it cuts, from the other one on it chooses: 36/5 then
        KnifeDesk x = Due.desk(2, 2, "w0:3,5;w1:1,9");
        for (int from = 0; from < 2; from++) {
            for (int agent = 0; agent < 2; agent++) {
                int best = 0;
                Q most = Q.of(-1);
                for (int way = 0; way < 4; way++) {
                    Q brings = Q.of(x.would(way, from, agent, 0), x.would(way, from, agent, 1));
                    best = brings.more(most) ? way : best;
                    most = brings.max(most);
                }
                due.is("best(" + agent + ", " + from + ")", x.best(agent, from), best);
            }
        }
    }

    public static void main(String[] args) {
        ThoughtEdgesTest test = new ThoughtEdgesTest();
        test.refused();
        test.would();
        test.lie();
        test.best();
        test.due.end("ThoughtEdgesTest");
    }
}
