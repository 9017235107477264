/** Promises 27 to 34 at their edges: rows of none and of 20, places beside them, numbers that are no worths; images of images. */
public final class RowsEdgesTest {
    private static final int LEAST = Integer.MIN_VALUE, MOST = Integer.MAX_VALUE, BAD = KnifeDesk.BAD, STATE = KnifeDesk.STATE;
    private static final int NOTHING = Due.NOTHING, BEYOND = Due.BEYOND, BELOW = Due.BELOW;
    private static final long NO = KnifeDesk.NO;
    private final Due due = new Due();

    private void list() {
        due.sentence(27, "a row of 0 .. 20 ints (0 at first)");
        for (int l = 0; l < 4; l++) {
            for (int n : new int[] {0, 1, 2, 19, 20}) {
                KnifeDesk x = new KnifeDesk();
                due.is("list(" + l + ", " + n + ")", x.list(l, n), 1);
                for (int i = 0; i < n; i++) {
                    due.is("place " + i, x.get(l, i), 0);
                }
                due.is("place " + n, x.get(l, n), NO);
                due.is("place -1", x.get(l, -1), NO);
                for (int other = 0; other < 4; other++) {
                    due.is("list " + other + " beside " + l, x.set(other, n, 1), other == l ? BEYOND : NOTHING);
                }
            }
        }
        due.sentence(27, "BAD: list, n above 20; BELOW");
        KnifeDesk x = new KnifeDesk();
        int[] sizes = {0, 20, 21, -1, LEAST, MOST};
        int[] answers = {1, 1, BAD, BELOW, BELOW, BAD};
        for (int k = 0; k < sizes.length; k++) {
            for (int l : new int[] {-1, 0, 3, 4, LEAST, MOST}) {
                due.is("list(" + l + ", " + sizes[k] + ")", x.list(l, sizes[k]), l == 0 || l == 3 ? answers[k] : BAD);
            }
        }
        due.is("refused, it stays as large as it was", x.get(3, 19), 0);
        due.sentence(27, "becomes a row of n ints, all 0");
        for (int i = 0; i < 20; i++) {
            x.set(1, i, 5);
            x.set(3, i, 5);
        }
        x.list(3, 20);
        for (int i = 0; i < 20; i++) {
            due.is("place " + i + ", laid anew", x.get(3, i), 0);
        }
        x.set(3, 0, 7);
        x.set(3, 19, 7);
        x.list(3, 1);
        due.is("place 0 of one", x.get(3, 0), 0);
        due.is("place 1 of one", x.get(3, 1), NO);
        x.list(3, 20);
        due.is("the last place, of 20 again", x.get(3, 19), 0);
        x.list(3, 0);
        due.is("a row of none holds no place", x.set(3, 0, 1), BEYOND);
        due.is("but is a row", x.into(0, 3, 0), 0);
    }

    private void setAndGet() {
        KnifeDesk x = new KnifeDesk();
        x.list(1, 20);
        x.list(2, 1);
        due.sentence(28, "Place i of a LIST becomes v: 1");
        int[] values = {LEAST, -1, 0, 1, MOST};
        for (int v : values) {
            for (int i : new int[] {0, 1, 19}) {
                due.is("set(1, " + i + ", " + v + ")", x.set(1, i, v), 1);
                due.is("get(1, " + i + ")", x.get(1, i), v);
            }
        }
        due.is("another list stays", x.get(2, 0), 0);
        due.is("another place stays", x.get(1, 2), 0);
        due.sentence(28, "BAD; NOTHING; BEYOND");
        int[][] places = {{-1, 0, BAD}, {4, 0, BAD}, {LEAST, -1, BAD}, {MOST, 20, BAD}, {0, 0, NOTHING}, {3, 0, NOTHING}, {0, -1, NOTHING},
            {0, 20, NOTHING}, {1, -1, BEYOND}, {1, 20, BEYOND}, {1, LEAST, BEYOND}, {1, MOST, BEYOND}, {2, 1, BEYOND}, {2, -1, BEYOND}};
        for (int[] p : places) {
            due.is("set(" + p[0] + ", " + p[1] + ", 9)", x.set(p[0], p[1], 9), p[2]);
        }
        due.sentence(29, "NO: no such LIST, nothing there, no such place");
        for (int[] p : places) {
            due.is("get(" + p[0] + ", " + p[1] + ")", x.get(p[0], p[1]), NO);
        }
        due.is("the last place", x.get(1, 19), MOST);
    }

    private static String places(KnifeDesk x, int list) {
        StringBuilder text = new StringBuilder();
        for (int i = 0; x.get(list, i) != NO; i++) {
            text.append(i > 0 ? "," : "").append(x.get(list, i));
        }
        return text.toString();
    }

    private void into() {
        due.sentence(30, "from place p on, until either ends: how many");
        for (int strips : new int[] {2, 3, 16}) {
            for (int size : new int[] {0, 1, 2, 3, 4, 16, 17, 20}) {
                for (int p : new int[] {0, 1, 2, 3, 15, 19, 20, 21, MOST}) {
                    KnifeDesk x = Due.desk(strips, 2, "");
                    for (int s = 0; s < strips; s++) {
                        x.tells(1, s, (s + 2) % 10);
                    }
                    x.list(0, size);
                    StringBuilder row = new StringBuilder();
                    int moved = 0;
                    for (int i = 0; i < size; i++) {
                        boolean told = i >= p && i - p < strips;
                        moved += told ? 1 : 0;
                        row.append(i > 0 ? "," : "").append(told ? (i - p + 2) % 10 : 0);
                    }
                    String name = "into(1, 0, " + p + ") of " + strips + ", " + size;
                    due.is(name, x.into(1, 0, p), moved);
                    due.isText("the row behind " + name, places(x, 0), row.toString());
                }
            }
        }
        due.sentence(30, "BAD: agent, list; NOTHING; BEYOND: p is below 0");
        moves((x, b) -> x.into(b[0], b[1], b[2]));
        due.sentence(30, "What an AGENT TELLS");
        KnifeDesk x = Due.desk(2, 2, "w0:3,4;t0:5,6");
        x.list(3, 2);
        due.is("into(0, 3, 0)", x.into(0, 3, 0), 2);
        due.isText("told, not worth", places(x, 3), "5,6");
    }

    private interface Move {
        int by(KnifeDesk x, int[] b);
    }

    private void moves(Move move) {
        int[][] moves = {{-1, 0, 0, BAD}, {2, 0, 0, BAD}, {LEAST, 0, 0, BAD}, {MOST, 0, 0, BAD}, {0, -1, 0, BAD}, {0, 4, 0, BAD}, {0, LEAST, 0, BAD},
            {0, MOST, 0, BAD}, {2, 1, -1, BAD}, {0, 4, -1, BAD}, {0, 1, 0, NOTHING}, {1, 3, 0, NOTHING}, {0, 1, -1, NOTHING}, {0, 0, -1, BEYOND},
            {1, 0, LEAST, BEYOND}, {0, 2, -1, BEYOND}, {0, 2, 0, 0}, {0, 0, 2, 0}, {0, 0, 3, 0}, {0, 0, MOST, 0}, {1, 0, 1, 1}, {1, 0, 0, 2}};
        for (int[] b : moves) {
            KnifeDesk x = Due.desk(3, 2, "");
            x.list(0, 2);
            x.list(2, 0);
            due.is("by " + b[0] + ", " + b[1] + ", " + b[2], move.by(x, b), b[3]);
        }
    }

    private static KnifeDesk withRow(int strips, int... values) {
        KnifeDesk x = Due.desk(strips, 2, "");
        x.list(0, values.length);
        for (int i = 0; i < values.length; i++) {
            x.set(0, i, values[i]);
        }
        return x;
    }

    private void fromIs(KnifeDesk x, int p, int moved, String told) {
        String name = "from(1, 0, " + p + ") of " + places(x, 0);
        due.is(name, x.from(1, 0, p), moved);
        due.isText("told behind " + name, Due.row(x, 1, 1), told);
        due.is("worth behind " + name, x.strip(1, 0, 0), 1);
    }

    private void from() {
        due.sentence(31, "from place p on, until either ends, or one is not 0 .. 9: how many");
        fromIs(withRow(3, 0, 9, 5), 0, 3, "095");
        fromIs(withRow(3, 0, 9, 5, 6), 0, 3, "095");
        fromIs(withRow(3, 0, 9), 0, 2, "091");
        fromIs(withRow(3, 0, 9, 5, 6), 1, 3, "956");
        fromIs(withRow(3, 0, 9, 5, 6), 3, 1, "611");
        fromIs(withRow(3, 0, 9, 5, 6), 4, 0, "111");
        fromIs(withRow(3, 0, 9, 5, 6), MOST, 0, "111");
        fromIs(withRow(3), 0, 0, "111");
        fromIs(withRow(16, 1, 2, 3, 4, 5, 6, 7, 8, 9, 0, 1, 2, 3, 4, 5, 6, 7, 8, 9, 0), 4, 16, "5678901234567890");
        fromIs(withRow(16, 1, 2, 3, 4, 5, 6, 7, 8, 9, 0, 1, 2, 3, 4, 5, 6, 7, 8, 9, 0), 5, 15, "6789012345678901");
        due.sentence(31, "what stood ahead of a number that is not 0 .. 9 is told");
        fromIs(withRow(3, 4, 10, 5), 0, 1, "411");
        fromIs(withRow(3, 4, -1, 5), 0, 1, "411");
        fromIs(withRow(3, 4, 7, 10), 0, 2, "471");
        fromIs(withRow(3, 10, 7, 8), 0, 0, "111");
        fromIs(withRow(3, 10, 7, 8), 1, 2, "781");
        fromIs(withRow(3, -1, 7, 8), 0, 0, "111");
        fromIs(withRow(3, 4, 7, 8, 10), 0, 3, "478");
        fromIs(withRow(3, LEAST, MOST), 0, 0, "111");
        fromIs(withRow(3, 4, MOST), 0, 1, "411");
        fromIs(withRow(3, 4, LEAST), 0, 1, "411");
        due.sentence(31, "BAD: agent, list; NOTHING; BEYOND: p is below 0");
        moves((x, b) -> x.from(b[0], b[1], b[2]));
        due.sentence(31, "An AGENT TELLS");
        KnifeDesk x = withRow(2, 5, 6);
        x.from(0, 0, 0);
        due.isText("told", Due.row(x, 0, 1), "56");
        due.isText("worth stays", Due.row(x, 0, 0), "11");
        due.isText("another agent stays", Due.row(x, 1, 1), "11");
        due.isText("the row stays", places(x, 0), "5,6");
    }

    private void image() {
        due.sentence(33, "STATE: there is none");
        KnifeDesk x = Due.desk(3, 4, "w0:5,6,7");
        x.shares(1, 0);
        String cake = Seen.cake(x);
        String division = Seen.division(x);
        due.is("back()", x.back(), STATE);
        due.isText("nothing is changed", Seen.cake(x) + Seen.division(x), cake + division);
        due.sentence(32, "AN IMAGE is kept: n");
        for (int agents = 2; agents <= 5; agents++) {
            KnifeDesk y = Due.desk(2, agents, "");
            due.is("image() of " + agents, y.image(), agents);
            y.begin(16, 7 - agents);
            due.is("back() to " + agents, y.back(), agents);
            due.is("agents", y.count(0), agents);
            due.is("strips", y.count(1), 2);
        }
        due.sentence(32, "AN IMAGE keeps S, n, WORTHS, what AGENTS TELL, THE DIVISION, THE LOG");
        x.tells(3, 2, 9);
        cake = Seen.cake(x);
        x.image();
        x.begin(16, 5);
        for (int i = 0; i < 5; i++) {
            for (int s = 0; s < 16; s += 3) {
                x.worth(i, s, 8);
            }
        }
        x.shares(2, 3);
        due.is("back()", x.back(), 4);
        due.isText("the cake", Seen.cake(x), cake);
        due.isText("the division", Seen.division(x), division);
        due.is("no fifth agent", x.strip(4, 0, 0), BAD);
        due.is("no fourth strip", x.strip(0, 3, 0), BAD);
        due.sentence(33, "It is laid back");
        imageAgain();
    }

    private void imageAgain() {
        KnifeDesk x = Due.desk(2, 2, "w0:3,5;w1:1,9");
        x.shares(0, 0);
        String cake = Seen.cake(x);
        String division = Seen.division(x);
        x.image();
        for (int k = 0; k < 3; k++) {
            // what comes behind it doesn't change the image
            x.worth(0, 0, k);
            x.tells(1, 1, k);
            x.shares(1 + k, 1);
            due.is("back(), time " + k, x.back(), 2);
            due.isText("the cake, time " + k, Seen.cake(x), cake);
            due.isText("the division, time " + k, Seen.division(x), division);
        }
        due.sentence(33, "of an image without a division there is none behind it");
        x.begin(3, 3);
        due.is("the image is still there", x.back(), 2);
        x.begin(3, 3);
        due.is("a newer one", x.image(), 3);
        x.shares(4, 2);
        due.is("back()", x.back(), 3);
        due.is("no division", x.count(2), 0);
        due.is("no unit", x.count(3), STATE);
        due.is("no events", x.count(6), 0);
        due.is("no event", x.event(-1, 0), NO);
        due.is("no share", x.share(0, -1, 0), NO);
        due.sentence(33, "of an image with a told division the log is empty");
        Due.divides(x, "1=0-1/2,1-3/2");
        x.image();
        x.shares(1, 0);
        x.back();
        due.isText("shares", Due.shares(x), "1=0-1/2,1-3/2");
        due.is("events", x.event(-1, 0), 0);
        due.is("unit", x.count(3), 2);
        due.sentence(33, "THE TAPE, THE PAPER, LISTS are in no image");
        x.shares(1, 0);
        x.prints();
        x.list(0, 1);
        x.set(0, 0, 4);
        Due.feed(x, "w0:7");
        String paper = Seen.paper(x);
        x.back();
        due.isText("the paper", Seen.paper(x), paper);
        due.is("the list", x.get(0, 0), 4);
        due.is("the tape", x.worths(), 1);
        due.is("as it was fed", x.strip(0, 0, 0), 7);
    }

    private void count() {
        due.sentence(34, "0 n, 1 S");
        for (int agents = 2; agents <= 5; agents++) {
            for (int strips : new int[] {2, 9, 16}) {
                KnifeDesk x = Due.desk(strips, agents, "");
                due.is("count(0)", x.count(0), agents);
                due.is("count(1)", x.count(1), strips);
            }
        }
        KnifeDesk x = Due.desk(3, 3, "");
        due.sentence(34, "2 whether there is a DIVISION");
        due.is("none", x.count(2), 0);
        due.sentence(34, "STATE: THE UNIT of none");
        due.is("count(3)", x.count(3), STATE);
        due.sentence(34, "6 EVENTS (0: no DIVISION)");
        due.is("count(6)", x.count(6), 0);
        due.sentence(34, "3 THE UNIT of it");
        x.shares(1, 0);
        due.is("a division", x.count(2), 1);
        due.is("whole points", x.count(3), 1);
        due.is("events", x.count(6), 8);
        // POINTS of MARKS, though no span ends there: 2/3 beside 1/2
        x = Due.desk(2, 2, "t0:4,0;t1:9,3");
        x.shares(1, 0);
        due.isText("log", Due.log(x), "m0 1/2;m1 2/3;g0 0-1/2;g1 1/2-2;");
        due.is("all marks'", x.count(3), 6);
        // of TRIMS too
        x.shares(2, 1);
        due.isText("log", Due.log(x), "m1 2/3;t0 1/2;g0 0-1/2;g1 1/2-2;");
        due.is("all marks' and trims'", x.count(3), 6);
        x = Due.desk(2, 2, "t0:4,4;t1:9,9");
        x.shares(2, 0);
        due.is("the least such number", x.count(3), 1);
        due.sentence(34, "(of a told one: by all POINTS of its SPANS)");
        Due.divides(x, "0=1/4-1/3,1-1;1=6/5-6/5");
        due.is("of empty ones too", x.count(3), 60);
        due.is("events", x.count(6), 0);
        due.sentence(34, "4 bytes on THE TAPE, 5 of THE PAPER");
        due.is("empty", x.count(4), 0);
        due.is("not printed", x.count(5), 0);
        for (int k = 1; k <= 160; k++) {
            x.feed('1');
            due.is("byte " + k, x.count(4), k);
        }
        x.feed('1');
        due.is("no more", x.count(4), 160);
        x.worths();
        due.is("read", x.count(4), 0);
        x.shares(2, 0);
        due.is("printed", x.prints(), x.count(5));
        due.is("count(5)", x.count(5), 22);
        due.sentence(34, "BAD");
        for (int what : new int[] {-1, 7, 8, LEAST, MOST}) {
            due.is("count(" + what + ")", x.count(what), BAD);
        }
    }

    public static void main(String[] args) {
        RowsEdgesTest test = new RowsEdgesTest();
        test.list();
        test.setAndGet();
        test.into();
        test.from();
        test.image();
        test.count();
        test.due.end("RowsEdgesTest");
    }
}
