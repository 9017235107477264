/** Promises 24 to 26: what a way would bring, lies, the best way. */
public final class ThoughtTest {
    private static final int LEAST = Integer.MIN_VALUE, MOST = Integer.MAX_VALUE;
    private static final long NO = KnifeDesk.NO;
    private final Due due = new Due();

    private static String state(KnifeDesk x) {
        StringBuilder text = new StringBuilder();
        for (int i = 0; i < x.count(0); i++) {
            text.append(Due.row(x, i, 0)).append(Due.row(x, i, 1));
        }
        text.append(x.count(6)).append(' ').append(x.count(3)).append(' ').append(x.paper(-1)).append((char) x.paper(0));
        return text.append(Due.shares(x)).toString();
    }

    private void would() {
        due.promise(24);
        KnifeDesk x = Due.desk(3, 3, "w0:1,1,1;w1:3,0,0;w2:0,0,3");
        String[] knife = {"1", "1", "3"};
        String[] diminish = {"4/3", "1", "3"};
        // 1 trims all of 0 .. 1 off, 2 marks nothing of it for its thirds, 1 takes the last of them
        String[] trims = {"1", "3", "3"};
        due.isText("no division needed, none made", Due.would(x, 1, 0, 0), "1");
        due.is("none", x.count(2), 0);
        x.shares(3, 1);
        x.prints();
        String before = state(x);
        for (int i = 0; i < 3; i++) {
            due.isText("a knife, " + i, Due.would(x, 1, 0, i), knife[i]);
            due.isText("diminish, " + i, Due.would(x, 2, 0, i), diminish[i]);
            due.isText("trims, " + i, Due.would(x, 4, 0, i), trims[i]);
        }
        due.isText("nothing is changed", state(x), before);
        x.tells(2, 0, 9);
        // told 9, 0, 3 it takes 1/3 to 7/9, which is worth nothing to it
        due.isText("by worths, shared as told", Due.would(x, 1, 0, 2), "0");
        int[][] bad = {{-1, 0, 0, 0}, {5, 0, 0, 0}, {1, 3, 0, 0}, {1, -1, 0, 0}, {1, 0, 3, 0}, {1, 0, -1, 0}, {1, 0, 0, 2}, {1, 0, 0, -1},
            {0, 0, 0, 0}, {LEAST, MOST, 0, 0}};
        for (int[] b : bad) {
            due.is("would(" + b[0] + ", " + b[1] + ", " + b[2] + ", " + b[3] + ")", x.would(b[0], b[1], b[2], b[3]), NO);
        }
        x = Due.desk(2, 2, "w0:3,5;w1:1,9");
        due.isText("two choose, the first", Due.would(x, 0, 0, 0), "4");
        due.isText("two choose, the second", Due.would(x, 0, 0, 1), "36/5");
        due.isText("from the second", Due.would(x, 0, 1, 0), "47/9");
        due.is("three trim", x.would(4, 0, 0, 0), NO);
    }

    private void lieIs(KnifeDesk x, int way, int from, int agent, long strips, long above, long below) {
        String name = "lie(" + way + ", " + from + ", " + agent + ", ";
        due.is(name + "0)", x.lie(way, from, agent, 0), strips);
        due.is(name + "1)", x.lie(way, from, agent, 1), above);
        due.is(name + "2)", x.lie(way, from, agent, 2), below);
    }

    private void lie() {
        due.promise(25);
        KnifeDesk x = Due.desk(2, 2, "w0:3,5;w1:1,9");
        x.shares(0, 1);
        x.prints();
        String before = state(x);
        // told 2, 6 it cuts at 4/3 and keeps the left side
        lieIs(x, 0, 0, 0, 1, 14, 3);
        lieIs(x, 0, 0, 1, NO, NO, NO);
        lieIs(x, 0, 1, 0, NO, NO, NO);
        // told 2, 8 it cuts at 11/8; told 0, 10 can't be
        lieIs(x, 0, 1, 1, 100, 45, 8);
        due.isText("nothing is changed", state(x), before);
        // as it tells, it has 14/3 already; told 1, 7 it has 3 + 5 times 3/7
        Due.worths(x, "t0:2,6");
        lieIs(x, 0, 0, 0, 1, 36, 7);
        // told 0, 8 the other one takes the left side, and 5/2 is left
        Due.worths(x, "t0:1,7");
        lieIs(x, 0, 0, 0, NO, NO, NO);
        Due.worths(x, "t0:0,8");
        lieIs(x, 0, 0, 0, 100, 36, 7);
        int[][] bad = {{-1, 0, 0, 0}, {5, 0, 0, 0}, {1, 2, 0, 0}, {1, -1, 0, 0}, {1, 0, 2, 0}, {1, 0, -1, 0}, {0, 0, 0, 3}, {0, 0, 0, -1},
            {4, 0, 0, 0}, {LEAST, MOST, 0, 0}};
        for (int[] b : bad) {
            due.is("lie(" + b[0] + ", " + b[1] + ", " + b[2] + ", " + b[3] + ")", x.lie(b[0], b[1], b[2], b[3]), NO);
        }
        // the chooser wants the right side anyway: 1 more of strip 3, less of 0, 1 or 2 alike
        x = Due.desk(4, 2, "w0:1,1,1,1;w1:0,0,0,9");
        lieIs(x, 0, 0, 0, 3, 3, 1);
        x = Due.desk(4, 2, "w0:0,1,1,1;w1:0,0,0,9");
        x.worth(0, 0, 1);
        x.tells(0, 0, 0);
        lieIs(x, 0, 0, 0, 103, 13, 4);
        // 1 less of strip 0 would bring more, but the others are told as 9 already
        x = Due.desk(3, 2, "w0:1,9,9;w1:0,0,9");
        lieIs(x, 0, 0, 0, NO, NO, NO);
        Due.worths(x, "w0:2,8,9");
        lieIs(x, 0, 0, 0, 1, 86, 9);
        x = Due.desk(4, 3, "");
        due.is("two choose, of three", x.lie(0, 0, 0, 0), NO);
    }

    private void best() {
        due.promise(26);
        KnifeDesk x = Due.desk(2, 2, "w0:3,5;w1:1,9");
        x.shares(0, 1);
        x.prints();
        String before = state(x);
        // choose 4, a knife 4, diminish 47/9 or 4, halves
        for (int i = 0; i < 2; i++) {
            for (int from = 0; from < 2; from++) {
                due.is("best(" + i + ", " + from + ")", x.best(i, from), slowBest(x, i, from));
            }
        }
        due.is("best(0, 1): to choose", x.best(0, 1), 0);
        due.isText("nothing is changed", state(x), before);
        x = Due.desk(3, 3, "w0:1,1,1;w1:3,0,0;w2:0,0,3");
        // a knife 1, diminish 4/3, trims 1
        due.is("best(0, 0)", x.best(0, 0), 2);
        due.is("best(1, 0)", x.best(1, 0), slowBest(x, 1, 0));
        due.is("best(2, 0): of several the first", x.best(2, 0), 1);
        x = Due.desk(4, 4, "");
        due.is("all like: the first that is allowed", x.best(3, 2), 1);
        int[][] bad = {{4, 0}, {-1, 0}, {0, 4}, {0, -1}, {LEAST, MOST}};
        for (int[] b : bad) {
            due.is("best(" + b[0] + ", " + b[1] + ")", x.best(b[0], b[1]), KnifeDesk.BAD);
        }
    }

    private static int slowBest(KnifeDesk x, int agent, int from) {
        int best = KnifeDesk.NOT;
        Q most = null;
        for (int way = 0; way < 5; way++) {
            long above = x.would(way, from, agent, 0);
            if (above != NO) {
                Q worth = Q.of(above, x.would(way, from, agent, 1));
                if (most == null || worth.more(most)) {
                    most = worth;
                    best = way;
                }
            }
        }
        return best;
    }

    public static void main(String[] args) {
        ThoughtTest test = new ThoughtTest();
        test.would();
        test.lie();
        test.best();
        test.due.end("ThoughtTest");
    }
}
