/** Promises 1 to 9: a new desk, the cake, points marked. */
public final class CakeTest {
    private static final int LEAST = Integer.MIN_VALUE, MOST = Integer.MAX_VALUE, BAD = KnifeDesk.BAD;
    private static final long NO = KnifeDesk.NO;
    private final Due due = new Due();

    private void newDesk() {
        due.promise(1);
        KnifeDesk x = new KnifeDesk();
        due.is("count(0)", x.count(0), 3);
        due.is("count(1)", x.count(1), 8);
        for (int i = 0; i < 3; i++) {
            due.isText("worths", Due.row(x, i, 0), "11111111");
            due.isText("told", Due.row(x, i, 1), "11111111");
        }
        due.is("no division", x.count(2), 0);
        due.is("tape", x.count(4), 0);
        due.is("paper", x.paper(-1), 0);
        due.is("no image", x.back(), KnifeDesk.STATE);
        for (int l = 0; l < 4; l++) {
            due.is("list", x.set(l, 0, 0), Due.NOTHING);
        }
        due.is("BAD", KnifeDesk.BAD, -1);
        due.is("NOT", KnifeDesk.NOT, -2);
        due.is("FULL", KnifeDesk.FULL, -3);
        due.is("STATE", KnifeDesk.STATE, -5);
        due.is("NO", KnifeDesk.NO, Long.MIN_VALUE);
    }

    private void begin() {
        due.promise(2);
        KnifeDesk x = new KnifeDesk();
        due.is("begin(16, 5)", x.begin(16, 5), 3);
        due.is("begin(2, 2)", x.begin(2, 2), 5);
        due.is("strips", x.count(1), 2);
        due.is("agents", x.count(0), 2);
        x.worth(1, 1, 7);
        x.shares(0, 0);
        int[][] bad = {{1, 2}, {17, 2}, {2, 1}, {2, 6}, {LEAST, 3}, {8, MOST}, {-8, 3}, {0, 0}};
        for (int[] b : bad) {
            due.is("begin(" + b[0] + ", " + b[1] + ")", x.begin(b[0], b[1]), BAD);
        }
        due.is("a bad begin changes nothing", x.strip(1, 1, 0), 7);
        due.is("a bad begin leaves the division", x.count(6), 3);
        x.prints();
        x.list(2, 3);
        x.set(2, 1, 44);
        x.feed('w');
        x.image();
        due.is("begin(2, 2) again", x.begin(2, 2), 2);
        due.is("worth is as at first", x.strip(1, 1, 0), 1);
        due.is("told is as at first", x.strip(1, 1, 1), 1);
        due.is("no division", x.count(2), 0);
        due.is("no unit", x.count(3), KnifeDesk.STATE);
        due.is("no events", x.count(6), 0);
        due.is("the tape stays", x.count(4), 1);
        due.is("the paper stays", x.count(5), 19);
        due.is("lists stay", x.get(2, 1), 44);
        due.is("the image stays", x.back(), 2);
        due.is("the image's worth", x.strip(1, 1, 0), 7);
    }

    private void worth() {
        due.promise(3);
        KnifeDesk x = new KnifeDesk();
        due.is("worth(2, 7, 9)", x.worth(2, 7, 9), 1);
        due.is("worth", x.strip(2, 7, 0), 9);
        due.is("told too", x.strip(2, 7, 1), 9);
        x.tells(2, 7, 4);
        due.is("what worth was, not what was told", x.worth(2, 7, 0), 9);
        due.is("told becomes the worth", x.strip(2, 7, 1), 0);
        int[][] bad = {{-1, 0, 1}, {3, 0, 1}, {0, -1, 1}, {0, 8, 1}, {0, 0, -1}, {0, 0, 10}, {LEAST, 0, 1}, {0, MOST, 1}, {0, 0, LEAST}};
        for (int[] b : bad) {
            due.is("worth(" + b[0] + ", " + b[1] + ", " + b[2] + ")", x.worth(b[0], b[1], b[2]), BAD);
        }
        due.isText("nothing is changed", Due.row(x, 0, 0), "11111111");
    }

    private void tells() {
        due.promise(4);
        KnifeDesk x = new KnifeDesk();
        x.worth(0, 0, 5);
        due.is("tells(0, 0, 9)", x.tells(0, 0, 9), 5);
        due.is("tells(0, 0, 0)", x.tells(0, 0, 0), 9);
        due.is("worth stays", x.strip(0, 0, 0), 5);
        due.is("told", x.strip(0, 0, 1), 0);
        int[][] bad = {{-1, 0, 1}, {3, 0, 1}, {0, -1, 1}, {0, 8, 1}, {0, 0, -1}, {0, 0, 10}, {MOST, 0, 1}, {0, LEAST, 1}, {0, 0, MOST}};
        for (int[] b : bad) {
            due.is("tells(" + b[0] + ", " + b[1] + ", " + b[2] + ")", x.tells(b[0], b[1], b[2]), BAD);
        }
        due.isText("nothing is changed", Due.row(x, 0, 1), "01111111");
    }

    private void honest() {
        due.promise(5);
        KnifeDesk x = new KnifeDesk();
        x.tells(1, 0, 9);
        x.tells(1, 3, 0);
        x.tells(1, 4, 1);
        x.tells(2, 5, 7);
        due.is("honest(1)", x.honest(1), 2);
        due.isText("told", Due.row(x, 1, 1), "11111111");
        due.is("others stay", x.strip(2, 5, 1), 7);
        due.is("honest(1) again", x.honest(1), 0);
        due.is("honest(-1)", x.honest(-1), BAD);
        due.is("honest(3)", x.honest(3), BAD);
    }

    private void strip() {
        due.promise(6);
        KnifeDesk x = Due.desk(16, 5, "w4:1,2,3,4,5,6,7,8,9,0,1,2,3,4,5,6;t4:9");
        due.isText("worth", Due.row(x, 4, 0), "1234567890123456");
        due.isText("told", Due.row(x, 4, 1), "9234567890123456");
        int[][] bad = {{5, 0, 0}, {-1, 0, 0}, {0, 16, 0}, {0, -1, 0}, {0, 0, 2}, {0, 0, -1}, {LEAST, LEAST, LEAST}};
        for (int[] b : bad) {
            due.is("strip(" + b[0] + ", " + b[1] + ", " + b[2] + ")", x.strip(b[0], b[1], b[2]), BAD);
        }
    }

    private void spanIs(KnifeDesk x, int how, int[] p, long above, long below) {
        String name = "span(0, " + how + ", " + p[0] + ", " + p[1] + ", " + p[2] + ", " + p[3];
        due.is(name + ", 0)", x.span(0, how, p[0], p[1], p[2], p[3], 0), above);
        due.is(name + ", 1)", x.span(0, how, p[0], p[1], p[2], p[3], 1), below);
    }

    private void span() {
        due.promise(7);
        KnifeDesk x = Due.desk(8, 3, "w0:1,2,3,4,5,6,7,8;t0:0,0,9");
        spanIs(x, 0, new int[] {0, 1, 8, 1}, 36, 1);
        spanIs(x, 1, new int[] {0, 1, 8, 1}, 39, 1);
        spanIs(x, 0, new int[] {1, 2, 5, 2}, 4, 1);
        spanIs(x, 1, new int[] {1, 2, 5, 2}, 9, 2);
        spanIs(x, 0, new int[] {1, 3, 2, 3}, 1, 3);
        spanIs(x, 0, new int[] {2, 4, 1, 2}, 0, 1);
        spanIs(x, 0, new int[] {8, 1, 8000, 1000}, 0, 1);
        spanIs(x, 0, new int[] {7999, 1000, 8, 1}, 1, 125);
        spanIs(x, 0, new int[] {1, 999, 1, 998}, 1, 997002);
        spanIs(x, 0, new int[] {1, 998, 1, 999}, NO, NO);
        spanIs(x, 0, new int[] {2, 1, 1, 1}, NO, NO);
        spanIs(x, 0, new int[] {0, 0, 1, 1}, NO, NO);
        spanIs(x, 0, new int[] {0, 1, 1, 0}, NO, NO);
        spanIs(x, 0, new int[] {0, 1001, 1, 1}, NO, NO);
        spanIs(x, 0, new int[] {0, 1, 1, 1001}, NO, NO);
        spanIs(x, 0, new int[] {-1, 1, 1, 1}, NO, NO);
        spanIs(x, 0, new int[] {0, 1, 9, 1}, NO, NO);
        spanIs(x, 0, new int[] {0, 1, 8001, 1000}, NO, NO);
        spanIs(x, 0, new int[] {9, 1, 9, 1}, NO, NO);
        spanIs(x, 0, new int[] {0, 1, MOST, 1}, NO, NO);
        spanIs(x, 0, new int[] {LEAST, LEAST, MOST, MOST}, NO, NO);
        spanIs(x, 2, new int[] {0, 1, 1, 1}, NO, NO);
        spanIs(x, -1, new int[] {0, 1, 1, 1}, NO, NO);
        due.is("part 2", x.span(0, 0, 0, 1, 1, 1, 2), NO);
        due.is("part -1", x.span(0, 0, 0, 1, 1, 1, -1), NO);
        due.is("agent 3", x.span(3, 0, 0, 1, 1, 1, 0), NO);
        due.is("agent -1", x.span(-1, 0, 0, 1, 1, 1, 0), NO);
    }

    private void markIs(KnifeDesk x, int[] p, long above, long below) {
        String name = "mark(0, " + p[0] + ", " + p[1] + ", " + p[2] + ", " + p[3];
        due.is(name + ", 0)", x.mark(0, p[0], p[1], p[2], p[3], 0), above);
        due.is(name + ", 1)", x.mark(0, p[0], p[1], p[2], p[3], 1), below);
    }

    private void mark() {
        due.promise(8);
        // told 36 in all, of a worth that is another one
        KnifeDesk x = Due.desk(8, 3, "t0:1,2,3,4,5,6,7,8");
        markIs(x, new int[] {0, 1, 1, 2}, 11, 2);
        markIs(x, new int[] {0, 1, 1, 1}, 8, 1);
        markIs(x, new int[] {0, 1, 1, 12}, 2, 1);
        markIs(x, new int[] {1, 2, 1, 9}, 5, 2);
        markIs(x, new int[] {4, 8, 0, 20}, 1, 2);
        markIs(x, new int[] {8, 1, 0, 1}, 8, 1);
        markIs(x, new int[] {8000, 1000, 1, 20}, NO, NO);
        markIs(x, new int[] {1, 1000, 1, 1}, NO, NO);
        markIs(x, new int[] {0, 1, 21, 20}, NO, NO);
        markIs(x, new int[] {0, 1, MOST, 1}, NO, NO);
        markIs(x, new int[] {0, 1, MOST, 20}, NO, NO);
        markIs(x, new int[] {0, 1, -1, 2}, NO, NO);
        markIs(x, new int[] {0, 1, LEAST, 2}, NO, NO);
        markIs(x, new int[] {0, 1, 1, 0}, NO, NO);
        markIs(x, new int[] {0, 1, 1, 21}, NO, NO);
        markIs(x, new int[] {0, 0, 1, 2}, NO, NO);
        markIs(x, new int[] {0, 1001, 1, 2}, NO, NO);
        markIs(x, new int[] {-1, 1, 1, 2}, NO, NO);
        markIs(x, new int[] {9, 1, 0, 2}, NO, NO);
        due.is("part 2", x.mark(0, 0, 1, 1, 2, 2), NO);
        due.is("part -1", x.mark(0, 0, 1, 1, 2, -1), NO);
        due.is("agent 3", x.mark(3, 0, 1, 1, 2, 0), NO);
        due.is("agent -1", x.mark(-1, 0, 1, 1, 2, 0), NO);
        // the least point: strips of nothing behind it don't count, those ahead do
        x = Due.desk(6, 2, "t0:0,2,0,0,2,0");
        markIs(x, new int[] {0, 1, 1, 2}, 2, 1);
        markIs(x, new int[] {2, 1, 1, 4}, 9, 2);
        markIs(x, new int[] {0, 1, 1, 1}, 5, 1);
        markIs(x, new int[] {7, 3, 0, 1}, 7, 3);
        // of nothing, any part is nothing
        x = Due.desk(2, 2, "t0:0,0");
        markIs(x, new int[] {6, 9, MOST, 1}, 2, 3);
        markIs(x, new int[] {0, 5, 1, 2}, 0, 1);
    }

    private void exact() {
        due.promise(9);
        due.isText("all like", Due.exact(new KnifeDesk(), 0, 2), "0-4");
        due.isText("within", Due.exact(Due.desk(2, 2, "w0:3,5;w1:1,9"), 0, 1), "1/2-3/2");
        KnifeDesk x = Due.desk(3, 3, "w0:2,1,1;w1:1,1,4;w2:2,1,1");
        due.isText("by the other's rise", Due.exact(x, 0, 1), "5/7-17/7");
        due.isText("either way", Due.exact(x, 1, 0), "5/7-17/7");
        due.isText("at once", Due.exact(x, 0, 2), "0-1");
        // any span 2 wide is half for the first
        x = Due.desk(4, 2, "w0:1,1,1,1;w1:9,1,1,9");
        due.isText("the first of two", Due.exact(x, 0, 1), "0-2");
        x = Due.desk(4, 2, "w0:1,1,1,1;w1:5,9,1,1");
        due.isText("behind a corner", Due.exact(x, 0, 1), "5/4-13/4");
        x = Due.desk(4, 2, "w0:1,1,1,1;w1:9,9,1,1");
        due.isText("at a corner", Due.exact(x, 0, 1), "1-3");
        x = Due.desk(2, 3, "w0:3,5;w1:1,9;w2:1,1");
        int[][] bad = {{0, 0, 0}, {-1, 0, 0}, {0, 3, 0}, {3, 0, 0}, {0, -1, 0}, {0, 1, 4}, {0, 1, -1}, {LEAST, MOST, 0}};
        for (int[] b : bad) {
            due.is("exact(" + b[0] + ", " + b[1] + ", " + b[2] + ")", x.exact(b[0], b[1], b[2]), NO);
        }
        x.tells(2, 1, 0);
        due.is("the second tells 0", x.exact(0, 2, 0), NO);
        due.is("the first tells 0", x.exact(2, 0, 3), NO);
        x.honest(2);
        x.worth(1, 0, 0);
        x.tells(1, 0, 1);
        due.isText("by what they tell", Due.exact(x, 0, 1), "1/2-3/2");
    }

    public static void main(String[] args) {
        CakeTest test = new CakeTest();
        test.newDesk();
        test.begin();
        test.worth();
        test.tells();
        test.honest();
        test.strip();
        test.span();
        test.mark();
        test.exact();
        test.due.end("CakeTest");
    }
}
