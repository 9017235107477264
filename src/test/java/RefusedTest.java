/**
 * "What is answered so changes nothing but THE TAPE": each refused call, what it answers, and that all is as it was; that what
 * only asks leaves all as it was, answered or not; and that what changes something changes nothing else.
 */
public final class RefusedTest {
    private static final int LEAST = Integer.MIN_VALUE, MOST = Integer.MAX_VALUE;
    private static final int BAD = KnifeDesk.BAD, NOT = KnifeDesk.NOT, FULL = KnifeDesk.FULL, STATE = KnifeDesk.STATE;
    private static final long NO = KnifeDesk.NO;
    private static final String TAPE = "t2:0,";
    private final Due due = new Due();

    private interface Call {
        long on(KnifeDesk x);
    }

    private interface Desk {
        KnifeDesk laid();
    }

    /** 3 strips, 3 agents; a division, an image that is another one, a paper, lists, and the beginning of a text on the tape. */
    private static KnifeDesk busy() {
        KnifeDesk x = Due.desk(3, 3, "w0:1,1,1;w1:6,2,0;w2:1,1,4");
        x.tells(2, 1, 2);
        x.shares(4, 0);
        x.image();
        x.tells(0, 1, 7);
        x.worth(1, 2, 5);
        x.shares(2, 2);
        x.prints();
        x.shares(1, 1);
        x.list(0, 3);
        x.set(0, 1, 4);
        x.set(0, 2, -9);
        x.list(2, 0);
        Due.feed(x, TAPE);
        return x;
    }

    private static KnifeDesk busyTapeEmpty() {
        KnifeDesk x = busy();
        x.worths();
        return x;
    }

    /** 4 agents, so that two ways are not allowed; no division, no image. */
    private static KnifeDesk bare() {
        KnifeDesk x = Due.desk(2, 4, "w0:1,3;t1:0,5");
        x.list(3, 2);
        Due.feed(x, TAPE);
        return x;
    }

    private void leaves(Desk desk, String name, Call call, int mayBe, Call before) {
        KnifeDesk x = desk.laid();
        KnifeDesk y = desk.laid();
        before.on(y);
        call.on(x);
        due.isText(name + ": what is not as it was", new Seen(x).unlike(new Seen(y), mayBe), "");
    }

    private void refused(Desk desk, String name, Call call, long answer) {
        due.is(name, call.on(desk.laid()), answer);
        leaves(desk, name, call, 0, y -> 0);
    }

    private void refused(String name, Call call, long answer) {
        refused(RefusedTest::busy, name, call, answer);
    }

    private void refusedBare(String name, Call call, long answer) {
        refused(RefusedTest::bare, "bare: " + name, call, answer);
    }

    private void cake() {
        due.promise(2);
        int[][] sizes = {{1, 3}, {17, 3}, {3, 1}, {3, 6}, {0, 0}, {-3, 3}, {3, -3}, {LEAST, 3}, {3, MOST}, {MOST, LEAST}};
        for (int[] b : sizes) {
            refused("begin(" + b[0] + ", " + b[1] + ")", x -> x.begin(b[0], b[1]), BAD);
        }
        int[][] worths = {{-1, 0, 1}, {3, 0, 1}, {0, -1, 1}, {0, 3, 1}, {0, 0, -1}, {0, 0, 10}, {MOST, 0, 1}, {0, LEAST, 1}, {0, 0, MOST}};
        for (int[] b : worths) {
            due.promise(3);
            refused("worth(" + b[0] + ", " + b[1] + ", " + b[2] + ")", x -> x.worth(b[0], b[1], b[2]), BAD);
            due.promise(4);
            refused("tells(" + b[0] + ", " + b[1] + ", " + b[2] + ")", x -> x.tells(b[0], b[1], b[2]), BAD);
        }
        for (int agent : new int[] {-1, 3, LEAST, MOST}) {
            due.promise(5);
            refused("honest(" + agent + ")", x -> x.honest(agent), BAD);
        }
        due.promise(6);
        int[][] strips = {{-1, 0, 0}, {3, 0, 0}, {0, -1, 0}, {0, 3, 0}, {0, 0, -1}, {0, 0, 2}, {LEAST, MOST, LEAST}};
        for (int[] b : strips) {
            refused("strip(" + b[0] + ", " + b[1] + ", " + b[2] + ")", x -> x.strip(b[0], b[1], b[2]), BAD);
        }
    }

    private void points() {
        due.promise(7);
        int[][] spans = {{-1, 0, 0, 1, 1, 1, 0}, {3, 0, 0, 1, 1, 1, 0}, {0, -1, 0, 1, 1, 1, 0}, {0, 2, 0, 1, 1, 1, 0},
            {0, 0, -1, 1, 1, 1, 0}, {0, 0, 4, 1, 4, 1, 0}, {0, 0, 0, 0, 1, 1, 0}, {0, 0, 0, 1001, 1, 1, 0}, {0, 0, 0, 1, 4, 1, 0},
            {0, 0, 0, 1, 1, 0, 0}, {0, 0, 0, 1, 1, 1001, 0}, {0, 0, 2, 1, 1, 1, 0}, {0, 0, 0, 1, 1, 1, -1}, {0, 0, 0, 1, 1, 1, 2},
            {LEAST, LEAST, LEAST, LEAST, LEAST, LEAST, LEAST}, {MOST, MOST, MOST, MOST, MOST, MOST, MOST}, {0, 0, 0, LEAST, MOST, MOST, 0}};
        for (int[] b : spans) {
            refused("span(" + java.util.Arrays.toString(b) + ")", x -> x.span(b[0], b[1], b[2], b[3], b[4], b[5], b[6]), NO);
        }
        due.promise(8);
        int[][] marks = {{-1, 0, 1, 1, 2, 0}, {3, 0, 1, 1, 2, 0}, {0, -1, 1, 1, 2, 0}, {0, 4, 1, 0, 2, 0}, {0, 0, 0, 1, 2, 0},
            {0, 0, 1001, 1, 2, 0}, {0, 0, 1, -1, 2, 0}, {0, 0, 1, 1, 0, 0}, {0, 0, 1, 0, 0, 0}, {0, 0, 1, 1, 21, 0}, {0, 0, 1, 1, -2, 0},
            {0, 0, 1, 1, 2, -1}, {0, 0, 1, 1, 2, 2}, {0, 0, 1, 21, 20, 0}, {0, 3, 1, 1, 20, 0}, {0, 0, 1, MOST, 1, 0},
            {LEAST, LEAST, LEAST, LEAST, LEAST, LEAST}, {MOST, MOST, MOST, MOST, MOST, MOST}};
        for (int[] b : marks) {
            refused("mark(" + java.util.Arrays.toString(b) + ")", x -> x.mark(b[0], b[1], b[2], b[3], b[4], b[5]), NO);
        }
        due.promise(9);
        // agent 1 of the bare desk tells 0 of strip 0
        int[][] halves = {{0, 0, 0}, {-1, 0, 0}, {0, -1, 0}, {3, 0, 0}, {0, 3, 0}, {0, 1, -1}, {0, 1, 4}, {LEAST, MOST, 0}};
        for (int[] b : halves) {
            refused("exact(" + b[0] + ", " + b[1] + ", " + b[2] + ")", x -> x.exact(b[0], b[1], b[2]), NO);
        }
        refusedBare("exact(0, 1, 0)", x -> x.exact(0, 1, 0), NO);
        refusedBare("exact(1, 0, 3)", x -> x.exact(1, 0, 3), NO);
    }

    private static KnifeDesk tapeFull() {
        KnifeDesk x = bare();
        for (int k = x.count(4); k < 160; k++) {
            x.feed(k % 2 == 0 ? ',' : '1');
        }
        return x;
    }

    /** The tape is empty behind each call that reads it; nothing else is changed. */
    private void refusedText(String text, boolean asWorths, long answer) {
        Desk desk = RefusedTest::busyTapeEmpty;
        Call call = x -> {
            Due.feed(x, text);
            return asWorths ? x.worths() : x.divides();
        };
        refused(desk, (asWorths ? "worths() of " : "divides() of ") + text, call, answer);
    }

    private void texts() {
        due.promise(10);
        for (int letter : new int[] {0, 128, -1, LEAST, MOST}) {
            refused("feed(" + letter + ")", x -> x.feed(letter), BAD);
            refused(RefusedTest::tapeFull, "full: feed(" + letter + ")", x -> x.feed(letter), BAD);
        }
        refused(RefusedTest::tapeFull, "full: feed(55)", x -> x.feed(55), FULL);
        due.promise(11);
        refusedText("", true, -100);
        refusedText("w0:5;t1:5;w2:5;", true, -115);
        refusedText("w0:5;t1:5;w3:5", true, -111);
        refusedText("w0:5,6,7;t1:5;w2:5,6,7,8", true, -123);
        refusedText("0=0-1", true, -100);
        due.promise(12);
        refusedText("", false, -100);
        refusedText("w0:5", false, -100);
        refusedText("0=0-1;1=1-2;", false, -112);
        refusedText("0=0-1;1=1-2;3=2-3", false, -112);
        refusedText("0=0-1;1=1-2;0=2-3", false, -112);
        refusedText("0=0-1;1=1-2;2=1/0", false, -116);
        refusedText("0=0-1;1=1-2;2=2-4", false, -116);
        refusedText("0=0-1;1=1-2;2=3-2", false, -116);
        refusedText("0=0-1;1=1-2;2=3/2-3", false, -114);
        refusedText("0=1/283-1/271,1/221-1/59", false, FULL);
        due.promise(13);
        refusedBare("prints()", x -> x.prints(), STATE);
        due.promise(14);
        refused("paper(-2)", x -> x.paper(-2), BAD);
        refused("paper(least)", x -> x.paper(LEAST), BAD);
        refused("paper(most)", x -> x.paper(MOST), NOT);
        refusedBare("paper(0)", x -> x.paper(0), NOT);
    }

    private void ways() {
        due.promise(15);
        int[][] ways = {{-1, 0}, {5, 0}, {1, -1}, {1, 3}, {0, -1}, {0, 3}, {4, 3}, {LEAST, 0}, {MOST, 0}, {1, LEAST}, {1, MOST}};
        for (int[] b : ways) {
            refused("shares(" + b[0] + ", " + b[1] + ")", x -> x.shares(b[0], b[1]), BAD);
        }
        refused("shares(0, 0)", x -> x.shares(0, 0), STATE);
        refusedBare("shares(0, 3)", x -> x.shares(0, 3), STATE);
        refusedBare("shares(4, 3)", x -> x.shares(4, 3), STATE);
        refusedBare("shares(4, 4)", x -> x.shares(4, 4), BAD);
        due.promise(16);
        // eight events
        int[][] events = {{-2, 0}, {8, 0}, {0, -1}, {0, 6}, {-1, 1}, {-1, 5}, {-1, 6}, {-1, -1}, {LEAST, 0}, {MOST, 0}, {0, LEAST}, {0, MOST}};
        for (int[] b : events) {
            refused("event(" + b[0] + ", " + b[1] + ")", x -> x.event(b[0], b[1]), NO);
        }
        refusedBare("event(-1, 0)", x -> x.event(-1, 0), NO);
        refusedBare("event(0, 0)", x -> x.event(0, 0), NO);
        due.promise(17);
        int[][] shares = {{-1, 0, 0}, {3, 0, 0}, {0, -2, 0}, {0, 1, 0}, {0, 0, -1}, {0, 0, 4}, {0, -1, 1}, {0, -1, 3}, {0, -1, -1},
            {LEAST, 0, 0}, {0, LEAST, 0}, {0, MOST, 0}, {0, 0, MOST}};
        for (int[] b : shares) {
            refused("share(" + b[0] + ", " + b[1] + ", " + b[2] + ")", x -> x.share(b[0], b[1], b[2]), NO);
        }
        refusedBare("share(0, -1, 0)", x -> x.share(0, -1, 0), NO);
        refusedBare("share(0, 0, 0)", x -> x.share(0, 0, 0), NO);
    }

    private void division() {
        due.promise(18);
        int[][] gets = {{-1, 0, 0, 0}, {3, 0, 0, 0}, {0, -1, 0, 0}, {0, 3, 0, 0}, {0, 0, -1, 0}, {0, 0, 2, 0}, {0, 0, 0, -1}, {0, 0, 0, 2}};
        for (int[] b : gets) {
            refused("gets(" + java.util.Arrays.toString(b) + ")", x -> x.gets(b[0], b[1], b[2], b[3]), NO);
        }
        refusedBare("gets(0, 0, 0, 0)", x -> x.gets(0, 0, 0, 0), NO);
        int[][] pairs = {{-1, 0}, {3, 0}, {0, -1}, {0, 2}, {LEAST, MOST}};
        due.promise(19);
        for (int[] b : pairs) {
            refused("envies(" + b[0] + ", " + b[1] + ")", x -> x.envies(b[0], b[1]), BAD);
        }
        refusedBare("envies(0, 0)", x -> x.envies(0, 0), STATE);
        refusedBare("envies(4, 0)", x -> x.envies(4, 0), BAD);
        refusedBare("envies(0, 2)", x -> x.envies(0, 2), BAD);
        due.promise(20);
        refused("fair(-1)", x -> x.fair(-1), BAD);
        refused("fair(2)", x -> x.fair(2), BAD);
        refusedBare("fair(1)", x -> x.fair(1), STATE);
        refusedBare("fair(2)", x -> x.fair(2), BAD);
        due.promise(21);
        refusedBare("exchange()", x -> x.exchange(), STATE);
        due.promise(22);
        refusedBare("cuts()", x -> x.cuts(), STATE);
        due.promise(23);
        int[][] off = {{-1, 0, 0}, {3, 0, 0}, {0, -1, 0}, {0, 2, 0}, {0, 0, -1}, {0, 0, 2}, {LEAST, MOST, LEAST}};
        for (int[] b : off) {
            refused("off(" + b[0] + ", " + b[1] + ", " + b[2] + ")", x -> x.off(b[0], b[1], b[2]), NO);
        }
        refusedBare("off(0, 0, 0)", x -> x.off(0, 0, 0), NO);
        refusedBare("off(0, 1, 1)", x -> x.off(0, 1, 1), NO);
    }

    private void thought() {
        int[][] thoughts = {{-1, 0, 0, 0}, {5, 0, 0, 0}, {1, -1, 0, 0}, {1, 3, 0, 0}, {1, 0, -1, 0}, {1, 0, 3, 0}, {1, 0, 0, -1},
            {1, 0, 0, 3}, {0, 0, 0, 0}, {LEAST, MOST, LEAST, MOST}};
        for (int[] b : thoughts) {
            due.promise(24);
            refused("would(" + java.util.Arrays.toString(b) + ")", x -> x.would(b[0], b[1], b[2], b[3]), NO);
            due.promise(25);
            refused("lie(" + java.util.Arrays.toString(b) + ")", x -> x.lie(b[0], b[1], b[2], b[3]), NO);
        }
        due.promise(24);
        refused("would(1, 0, 0, 2)", x -> x.would(1, 0, 0, 2), NO);
        refusedBare("would(4, 0, 0, 0)", x -> x.would(4, 0, 0, 0), NO);
        due.promise(25);
        refusedBare("lie(4, 0, 0, 0)", x -> x.lie(4, 0, 0, 0), NO);
        due.promise(26);
        for (int[] b : new int[][] {{-1, 0}, {3, 0}, {0, -1}, {0, 3}, {LEAST, MOST}}) {
            refused("best(" + b[0] + ", " + b[1] + ")", x -> x.best(b[0], b[1]), BAD);
        }
    }

    private void rows() {
        due.promise(27);
        int[][] lists = {{-1, 1, BAD}, {4, 1, BAD}, {0, 21, BAD}, {0, MOST, BAD}, {4, -1, BAD}, {-1, 21, BAD}, {0, -1, Due.BELOW},
            {0, LEAST, Due.BELOW}, {1, -1, Due.BELOW}, {LEAST, 0, BAD}, {MOST, 0, BAD}};
        for (int[] b : lists) {
            refused("list(" + b[0] + ", " + b[1] + ")", x -> x.list(b[0], b[1]), b[2]);
        }
        int[][] places = {{-1, 0, BAD}, {4, 0, BAD}, {4, -1, BAD}, {1, 0, Due.NOTHING}, {1, -1, Due.NOTHING}, {3, 20, Due.NOTHING},
            {0, -1, Due.BEYOND}, {0, 3, Due.BEYOND}, {2, 0, Due.BEYOND}, {0, LEAST, Due.BEYOND}, {0, MOST, Due.BEYOND}};
        for (int[] b : places) {
            due.promise(28);
            refused("set(" + b[0] + ", " + b[1] + ", 5)", x -> x.set(b[0], b[1], 5), b[2]);
            due.promise(29);
            refused("get(" + b[0] + ", " + b[1] + ")", x -> x.get(b[0], b[1]), NO);
        }
        int[][] moves = {{-1, 0, 0, BAD}, {3, 0, 0, BAD}, {0, -1, 0, BAD}, {0, 4, 0, BAD}, {3, 1, -1, BAD}, {0, 4, -1, BAD},
            {0, 1, 0, Due.NOTHING}, {0, 3, -1, Due.NOTHING}, {0, 0, -1, Due.BEYOND}, {0, 0, LEAST, Due.BEYOND}, {0, 2, -1, Due.BEYOND},
            {0, 0, 3, 0}, {0, 0, MOST, 0}, {0, 2, 0, 0}};
        for (int[] b : moves) {
            due.promise(30);
            refused("into(" + b[0] + ", " + b[1] + ", " + b[2] + ")", x -> x.into(b[0], b[1], b[2]), b[3]);
            due.promise(31);
            refused("from(" + b[0] + ", " + b[1] + ", " + b[2] + ")", x -> x.from(b[0], b[1], b[2]), b[3]);
        }
        due.promise(33);
        refusedBare("back()", x -> x.back(), STATE);
        due.promise(34);
        for (int what : new int[] {-1, 7, LEAST, MOST}) {
            refused("count(" + what + ")", x -> x.count(what), BAD);
        }
        refusedBare("count(3)", x -> x.count(3), STATE);
    }

    private void asks(String name, Call call) {
        leaves(RefusedTest::busy, name, call, 0, y -> 0);
        leaves(RefusedTest::bare, "bare: " + name, call, 0, y -> 0);
    }

    /** What only asks changes nothing, whatever it answers. */
    private void asking() {
        due.promise(6);
        asks("strip", x -> x.strip(2, 1, 1));
        due.promise(7);
        asks("span", x -> x.span(0, 0, 1, 3, 5, 4, 0));
        due.promise(8);
        asks("mark", x -> x.mark(0, 1, 3, 1, 4, 1));
        due.promise(9);
        asks("exact", x -> x.exact(0, 2, 2));
        due.promise(14);
        asks("paper", x -> x.paper(1) + x.paper(-1));
        due.promise(16);
        asks("event", x -> x.event(2, 2) + x.event(-1, 0));
        due.promise(17);
        asks("share", x -> x.share(1, 0, 2) + x.share(1, -1, 0));
        due.promise(18);
        asks("gets", x -> x.gets(1, 2, 1, 0));
        due.promise(19);
        asks("envies", x -> x.envies(1, 1));
        due.promise(20);
        asks("fair", x -> x.fair(0));
        due.promise(21);
        asks("exchange", x -> x.exchange());
        due.promise(22);
        asks("cuts", x -> x.cuts());
        due.promise(23);
        asks("off", x -> x.off(1, 0, 0) + x.off(1, 1, 0));
        for (int way = 0; way < 5; way++) {
            int w = way;
            due.sentence(24, "would(), lie(), best() leave THE LOG, THE DIVISION, THE PAPER");
            asks("would " + way, x -> x.would(w, 1, 2, 0));
            due.sentence(25, "would(), lie(), best() leave THE LOG, THE DIVISION, THE PAPER");
            for (int agent = 0; agent < 3; agent++) {
                int i = agent;
                asks("lie " + way + " of " + agent, x -> x.lie(w, 1, i, 0));
            }
        }
        due.sentence(26, "would(), lie(), best() leave THE LOG, THE DIVISION, THE PAPER");
        asks("best", x -> x.best(1, 2));
        due.promise(29);
        asks("get", x -> x.get(0, 1));
        due.promise(34);
        asks("count", x -> x.count(0) + x.count(3) + x.count(4) + x.count(5) + x.count(6));
    }

    private void changes(String name, Call call, int parts) {
        leaves(RefusedTest::busy, name, call, parts, y -> 0);
        KnifeDesk x = busy();
        call.on(x);
        due.is(name + " changes something", new Seen(x).unlike(new Seen(busy()), 0).isEmpty() ? 0 : 1, 1);
    }

    /** What changes something changes nothing else. */
    private void changing() {
        // what is told stands in the tape's part too: the tape is tried by telling
        int told = Seen.CAKE | Seen.TAPE;
        due.promise(2);
        changes("begin", x -> x.begin(4, 5), told | Seen.DIVISION | Seen.LISTS);
        due.promise(3);
        changes("worth", x -> x.worth(2, 2, 8), told);
        due.promise(4);
        changes("tells", x -> x.tells(2, 2, 8), told);
        due.promise(5);
        changes("honest", x -> x.honest(0), told);
        due.promise(10);
        changes("feed", x -> x.feed('6'), Seen.TAPE);
        due.promise(11);
        changes("worths", x -> x.feed('6') + x.worths(), told);
        due.promise(12);
        changes("divides", x -> x.divides() + Due.divides(x, "1=0-1"), Seen.DIVISION | Seen.TAPE);
        due.promise(13);
        changes("prints", x -> x.prints(), Seen.PAPER);
        due.promise(15);
        changes("shares", x -> x.shares(3, 1), Seen.DIVISION);
        due.promise(27);
        changes("list", x -> x.list(0, 3) + x.list(3, 2), Seen.LISTS);
        due.promise(28);
        changes("set", x -> x.set(0, 1, 5), Seen.LISTS);
        due.promise(30);
        changes("into", x -> x.into(0, 0, 1), Seen.LISTS);
        due.promise(31);
        changes("from", x -> x.from(0, 0, 1), told);
        due.promise(32);
        changes("image", x -> x.image(), Seen.IMAGE);
        due.promise(33);
        changes("back", x -> x.back(), told | Seen.DIVISION);
        // each place but the one that is told stays
        due.promise(3);
        due.isText("worths that are not told stay", told(x -> x.worth(2, 2, 8)), "111171 625625 118128");
        due.promise(4);
        due.isText("what is not told stays", told(x -> x.tells(2, 2, 8)), "111171 625625 114128");
    }

    private static String told(Call call) {
        KnifeDesk x = busy();
        x.worth(0, 1, 1);
        x.tells(0, 1, 7);
        call.on(x);
        StringBuilder text = new StringBuilder();
        for (int i = 0; i < 3; i++) {
            text.append(i > 0 ? " " : "").append(Due.row(x, i, 0)).append(Due.row(x, i, 1));
        }
        return text.toString();
    }

    public static void main(String[] args) {
        RefusedTest test = new RefusedTest();
        test.cake();
        test.points();
        test.texts();
        test.ways();
        test.division();
        test.thought();
        test.rows();
        test.asking();
        test.changing();
        test.due.end("RefusedTest");
    }
}
