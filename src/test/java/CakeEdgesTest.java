/** Promises 1 to 9 at their edges, sentence by sentence: the last value that is taken, the first that is not, on both sides. */
public final class CakeEdgesTest {
    private static final int LEAST = Integer.MIN_VALUE, MOST = Integer.MAX_VALUE, BAD = KnifeDesk.BAD, STATE = KnifeDesk.STATE;
    private static final long NO = KnifeDesk.NO;
    private final Due due = new Due();

    private void newDesk() {
        due.sentence(1, "8 STRIPS, 3 AGENTS, all 1");
        KnifeDesk x = new KnifeDesk();
        for (int how = 0; how < 2; how++) {
            due.is("the last strip of the last agent", x.strip(2, 7, how), 1);
            due.is("no ninth strip", x.strip(2, 8, how), BAD);
            due.is("no fourth agent", x.strip(3, 7, how), BAD);
        }
        due.sentence(1, "THE DIVISION (none at first)");
        due.is("count(2)", x.count(2), 0);
        due.is("count(3)", x.count(3), STATE);
        due.is("count(6)", x.count(6), 0);
        due.is("event", x.event(-1, 0), NO);
        due.is("share", x.share(0, -1, 0), NO);
        due.is("prints", x.prints(), STATE);
        due.sentence(1, "THE TAPE holds 0 .. 160 bytes");
        due.is("bytes", x.count(4), 0);
        due.is("as worths", x.worths(), -100);
        due.is("as a division", x.divides(), -100);
        due.sentence(1, "THE PAPER holds what was printed last (nothing at first)");
        due.is("bytes", x.paper(-1), 0);
        due.is("count(5)", x.count(5), 0);
        due.is("the first", x.paper(0), KnifeDesk.NOT);
        due.sentence(1, "LISTS 0 .. 3 hold nothing (at first)");
        for (int l = 0; l < 4; l++) {
            due.is("get", x.get(l, 0), NO);
            due.is("set", x.set(l, 0, 1), Due.NOTHING);
            due.is("into", x.into(0, l, 0), Due.NOTHING);
            due.is("from", x.from(0, l, 0), Due.NOTHING);
        }
        due.is("no list -1", x.set(-1, 0, 1), BAD);
        due.is("no list 4", x.set(4, 0, 1), BAD);
        due.sentence(1, "back: STATE: there is none");
        due.is("back", x.back(), STATE);
        due.sentence(1, "A new object");
        x.worth(0, 0, 9);
        x.shares(1, 0);
        x.image();
        KnifeDesk y = new KnifeDesk();
        due.is("another one is new", y.strip(0, 0, 0), 1);
        due.is("without a division", y.count(2), 0);
        due.is("without an image", y.back(), STATE);
        memory();
        calls();
    }

    private void memory() {
        due.sentence(1, "All memory is the class's own");
        KnifeDesk x = Due.desk(4, 2, "w0:1,2,3,4");
        KnifeDesk y = Due.desk(2, 5, "w0:9,8;t0:7,6");
        Due.feed(x, "w1:5");
        Due.feed(y, "t4:3,2");
        x.shares(0, 0);
        y.shares(1, 4);
        x.prints();
        x.list(2, 3);
        x.set(2, 1, 77);
        y.list(2, 2);
        x.image();
        due.is("the other's agents", y.count(0), 5);
        due.isText("the other's worths", Due.row(y, 0, 0) + Due.row(y, 0, 1), "9876");
        due.is("the other's tape", y.count(4), 6);
        due.is("the other's paper", y.count(5), 0);
        due.is("the other's list", y.get(2, 1), 0);
        due.is("the other's image", y.back(), STATE);
        due.is("the other's log", y.count(6), 19);
        due.is("the other's tape is read", y.worths(), 1);
        y.begin(3, 3);
        y.would(4, 0, 0, 0);
        y.exact(0, 1, 0);
        due.isText("its own worths", Due.row(x, 0, 1) + Due.row(x, 1, 1), "12341111");
        due.isText("its own shares", Due.shares(x), "0=8/3-4;1=0-8/3");
        due.is("its own tape", x.count(4), 4);
        due.is("its own list", x.get(2, 1), 77);
        due.is("its own tape is read", x.worths(), 1);
        due.is("its own image", x.back(), 2);
        due.is("back to it", x.strip(1, 0, 0), 1);
    }

    private void calls() {
        due.sentence(1, "An object is used for at most 512 calls");
        KnifeDesk x = new KnifeDesk();
        for (int k = 1; k < 512; k++) {
            due.is("call " + k, k % 2 == 1 ? x.worth(2, 7, 3) : x.worth(2, 7, 1), k % 2 == 1 ? 1 : 3);
        }
        due.is("call 512", x.strip(2, 7, 0), 3);
        String worths = "w0:9,8,7,6,5,4,3,2,1,2,3,4,5,6,7,8;w1:1,2,3,4,5,6,7,8,9;w2:5,1,5,1,5,1,5,1,5,1,5,1,5,1,5,1";
        x = Due.desk(16, 3, worths);
        // begin, each byte, worths, the first lie
        int made = 1 + worths.length() + 1 + 1;
        long lie = x.lie(4, 1, 2, 0);
        for (int k = made + 1; k < 512; k++) {
            due.is("lie, call " + k, x.lie(4, 1, 2, 0), lie);
        }
        due.is("shares, call 512", x.shares(3, 0), 8);
    }

    private void begin() {
        due.sentence(2, "S 2 .. 16");
        for (int strips : new int[] {LEAST, -16, -2, -1, 0, 1, 2, 3, 8, 15, 16, 17, 18, 32, MOST}) {
            KnifeDesk x = new KnifeDesk();
            boolean taken = strips >= 2 && strips <= 16;
            due.is("begin(" + strips + ", 2)", x.begin(strips, 2), taken ? 3 : BAD);
            due.is("strips behind it", x.count(1), taken ? strips : 8);
            due.is("agents behind it", x.count(0), taken ? 2 : 3);
        }
        due.sentence(2, "n 2 .. 5");
        for (int agents : new int[] {LEAST, -5, -1, 0, 1, 2, 3, 4, 5, 6, 7, 10, MOST}) {
            KnifeDesk x = new KnifeDesk();
            boolean taken = agents >= 2 && agents <= 5;
            due.is("begin(16, " + agents + ")", x.begin(16, agents), taken ? 3 : BAD);
            due.is("agents behind it", x.count(0), taken ? agents : 3);
            due.is("strips behind it", x.count(1), taken ? 16 : 8);
        }
        due.sentence(2, "There are so many STRIPS, AGENTS");
        for (int strips = 2; strips <= 16; strips++) {
            for (int agents = 2; agents <= 5; agents++) {
                KnifeDesk x = new KnifeDesk();
                x.begin(strips, agents);
                due.is("the last of " + strips + ", " + agents, x.strip(agents - 1, strips - 1, 0), 1);
                due.is("first strip not there", x.strip(agents - 1, strips, 0), BAD);
                due.is("first agent not there", x.strip(agents, strips - 1, 1), BAD);
            }
        }
        due.sentence(2, "what n was");
        KnifeDesk x = new KnifeDesk();
        int was = 3;
        for (int agents : new int[] {2, 5, 4, 4, 3, 2}) {
            due.is("begin(2, " + agents + ")", x.begin(2, agents), was);
            was = agents;
        }
        due.sentence(2, "all is as at first");
        x = Due.desk(16, 5, "");
        for (int i = 0; i < 5; i++) {
            for (int s = 0; s < 16; s++) {
                x.worth(i, s, 9);
            }
        }
        // what lay beyond the edge of a smaller cake doesn't come back with a larger one
        x.begin(2, 2);
        x.begin(16, 5);
        for (int i = 0; i < 5; i++) {
            due.isText("worths", Due.row(x, i, 0), "1111111111111111");
            due.isText("told", Due.row(x, i, 1), "1111111111111111");
        }
        beginKeeps();
    }

    private void beginKeeps() {
        due.sentence(2, "all is as at first, but THE TAPE, THE PAPER, LISTS, THE IMAGE");
        KnifeDesk x = Due.desk(3, 3, "w0:1,2,3");
        x.shares(2, 0);
        x.prints();
        x.image();
        x.list(1, 20);
        x.set(1, 19, -5);
        x.list(3, 0);
        Due.feed(x, "w1:4,4");
        String paper = Seen.paper(x);
        String lists = Seen.lists(x);
        String division = Seen.division(x);
        x.worth(0, 0, 7);
        x.begin(3, 3);
        due.isText("the cake", Seen.cake(x), Seen.cake(Due.desk(3, 3, "")));
        due.isText("the division", Seen.division(x), Seen.division(Due.desk(3, 3, "")));
        due.isText("the paper", Seen.paper(x), paper);
        due.isText("the lists", Seen.lists(x), lists);
        due.is("bytes on the tape", x.count(4), 6);
        due.is("they can be read", x.worths(), 1);
        due.isText("and are told", Due.row(x, 1, 0), "441");
        due.is("the image", x.back(), 3);
        due.isText("its worths", Due.row(x, 0, 0), "123");
        due.isText("its division", Seen.division(x), division);
    }

    /** For worth (how 0) and tells (1). */
    private void tellsEdges(int how) {
        int promise = 3 + how;
        due.sentence(promise, "a WORTH (0 .. 9; 1 at first) and TELLS one (0 .. 9; 1 at first)");
        KnifeDesk x = new KnifeDesk();
        int was = 1;
        for (int v : new int[] {0, 9, 0, 1, 8, 9}) {
            due.is("v " + v, tell(x, how, 1, 1, v), was);
            due.is("is told", x.strip(1, 1, 1), v);
            due.is("is worth", x.strip(1, 1, 0), how == 0 ? v : 1);
            was = v;
        }
        for (int v : new int[] {-1, 10, -9, 19, LEAST, MOST}) {
            due.is("v " + v, tell(x, how, 1, 1, v), BAD);
            due.is("stays told", x.strip(1, 1, 1), 9);
            due.is("stays worth", x.strip(1, 1, 0), how == 0 ? 9 : 1);
        }
        due.sentence(promise, "STRIPS 0 .. S - 1, AGENTS 0 .. n - 1");
        for (int[] size : new int[][] {{2, 2}, {8, 3}, {16, 5}}) {
            x = Due.desk(size[0], size[1], "");
            due.is("the first", tell(x, how, 0, 0, 5), 1);
            due.is("the last", tell(x, how, size[1] - 1, size[0] - 1, 6), 1);
            due.is("strip " + size[0], tell(x, how, 0, size[0], 5), BAD);
            due.is("agent " + size[1], tell(x, how, size[1], 0, 5), BAD);
            due.is("strip -1", tell(x, how, 1, -1, 5), BAD);
            due.is("agent -1", tell(x, how, -1, 1, 5), BAD);
            due.is("the first is told", x.strip(0, 0, 1), 5);
            due.is("the last is told", x.strip(size[1] - 1, size[0] - 1, 1), 6);
        }
    }

    private static int tell(KnifeDesk x, int how, int agent, int strip, int v) {
        return how == 0 ? x.worth(agent, strip, v) : x.tells(agent, strip, v);
    }

    private void worthIsTold() {
        due.sentence(3, "WORTH of a STRIP, and what the AGENT TELLS of it, become v: what WORTH was");
        KnifeDesk x = new KnifeDesk();
        x.tells(0, 0, 7);
        due.is("worth(0, 0, 1), as it is", x.worth(0, 0, 1), 1);
        due.is("told becomes it though worth stays", x.strip(0, 0, 1), 1);
        due.sentence(4, "what it told");
        x.worth(0, 0, 4);
        due.is("tells(0, 0, 4)", x.tells(0, 0, 4), 4);
        due.is("tells(0, 0, 0)", x.tells(0, 0, 0), 4);
        due.is("worth stays", x.strip(0, 0, 0), 4);
    }

    private void honest() {
        due.sentence(5, "of how many STRIPS it didn't");
        for (int strips = 2; strips <= 16; strips++) {
            KnifeDesk x = Due.desk(strips, 5, "");
            due.is("none", x.honest(4), 0);
            for (int s = 0; s < strips; s++) {
                x.tells(4, s, 0);
            }
            x.tells(3, 0, 2);
            due.is("all " + strips, x.honest(4), strips);
            due.is("the last strip", x.strip(4, strips - 1, 1), 1);
            due.is("the first strip", x.strip(4, 0, 1), 1);
            due.is("none again", x.honest(4), 0);
            due.is("another agent's first strip alone", x.honest(3), 1);
            x.tells(0, strips - 1, 9);
            due.is("the last strip alone", x.honest(0), 1);
            due.is("agent 5", x.honest(5), BAD);
            due.is("agent -1", x.honest(-1), BAD);
        }
    }

    private void strip() {
        due.sentence(6, "WORTH (how 0), what is TOLD (1)");
        KnifeDesk x = Due.desk(2, 2, "w1:3,4;t1:5,6");
        int[][] rows = {{3, 4}, {5, 6}};
        for (int how = 0; how < 2; how++) {
            for (int s = 0; s < 2; s++) {
                due.is("strip(1, " + s + ", " + how + ")", x.strip(1, s, how), rows[how][s]);
            }
        }
        due.is("how -1", x.strip(1, 0, -1), BAD);
        due.is("how 2", x.strip(1, 0, 2), BAD);
        due.is("strip -1", x.strip(1, -1, 0), BAD);
        due.is("strip 2", x.strip(1, 2, 0), BAD);
        due.is("agent -1", x.strip(-1, 0, 0), BAD);
        due.is("agent 2", x.strip(2, 0, 0), BAD);
    }

    private void spanIs(KnifeDesk x, int how, String points, long above, long below) {
        String[] p = points.split("[ /-]+");
        int a = Integer.parseInt(p[0]);
        int b = Integer.parseInt(p[1]);
        int c = Integer.parseInt(p[2]);
        int d = Integer.parseInt(p[3]);
        due.is("above, of " + points + ", how " + how, x.span(0, how, a, b, c, d, 0), above);
        due.is("below, of " + points + ", how " + how, x.span(0, how, a, b, c, d, 1), below);
    }

    private void span() {
        KnifeDesk x = Due.desk(3, 2, "w0:2,0,5;t0:0,9,1");
        due.sentence(7, "b, d 1 .. 1000");
        spanIs(x, 0, "0/1-1000/1000", 2, 1);
        spanIs(x, 0, "0/1000-3/1", 7, 1);
        spanIs(x, 0, "1/1000-2/1000", 1, 500);
        for (int b : new int[] {0, 1001, -1, -1000, LEAST, MOST}) {
            due.is("b " + b, x.span(0, 0, 0, b, 1, 1, 0), NO);
            due.is("d " + b, x.span(0, 0, 0, 1, 0, b, 0), NO);
        }
        due.sentence(7, "A POINT is a number 0 .. S (a fraction)");
        for (int strips = 2; strips <= 16; strips++) {
            KnifeDesk y = Due.desk(strips, 2, "");
            spanIs(y, 0, "0/7-" + strips * 7 + "/7", strips, 1);
            spanIs(y, 1, strips + "/1-" + strips * 1000 + "/1000", 0, 1);
            spanIs(y, 0, "0/1-" + (strips * 1000 + 1) + "/1000", NO, NO);
            spanIs(y, 0, (strips + 1) + "/1-" + (strips + 1) + "/1", NO, NO);
            due.is("a -1", y.span(0, 0, -1, 1000, 1, 1, 0), NO);
            due.is("c -1", y.span(0, 0, 0, 1, -1, 1000, 0), NO);
        }
        due.sentence(7, "a SPAN goes from a POINT to one that isn't below it (it may be empty)");
        spanIs(x, 0, "1/2-500/1000", 0, 1);
        spanIs(x, 0, "1/2-501/1000", 1, 500);
        spanIs(x, 0, "1/2-499/1000", NO, NO);
        spanIs(x, 0, "999/1000-998/999", NO, NO);
        spanIs(x, 0, "998/999-999/1000", 1, 499500);
        spanIs(x, 0, "0/1-0/1000", 0, 1);
        due.sentence(7, "WORTH (how 0), TOLD WORTH (1)");
        spanIs(x, 1, "1/2-5/2", 19, 2);
        spanIs(x, 0, "1/2-5/2", 7, 2);
        due.is("how -1", x.span(0, -1, 0, 1, 1, 1, 0), NO);
        due.is("how 2", x.span(0, 2, 0, 1, 1, 1, 0), NO);
        due.sentence(7, "above (part 0), below the line (1)");
        due.is("part -1", x.span(0, 0, 0, 1, 1, 1, -1), NO);
        due.is("part 2", x.span(0, 0, 0, 1, 1, 1, 2), NO);
        due.sentence(7, "Fractions are told in lowest terms (0: 0 by 1)");
        spanIs(x, 0, "1/1-2/1", 0, 1);
        spanIs(x, 0, "0/6-3/6", 1, 1);
        spanIs(x, 0, "2/12-6/12", 2, 3);
        spanIs(x, 0, "1000/500-2900/1000", 9, 2);
        due.sentence(7, "WORTH of THE CAKE: of all STRIPS");
        spanIs(Due.desk(16, 5, "w0:9,9,9,9,9,9,9,9,9,9,9,9,9,9,9,9"), 0, "0/1000-16000/1000", 144, 1);
        spanIs(Due.desk(16, 5, "w0:9,9,9,9,9,9,9,9,9,9,9,9,9,9,9,9"), 1, "1/1000-15983/999", 15982001, 111000);
        spanIs(Due.desk(2, 2, "w0:0,0"), 0, "0/1-2/1", 0, 1);
        due.sentence(7, "AGENTS 0 .. n - 1");
        due.is("agent 1", x.span(1, 0, 0, 1, 1, 1, 0), 1);
        due.is("agent 2", x.span(2, 0, 0, 1, 1, 1, 0), NO);
        due.is("agent -1", x.span(-1, 0, 0, 1, 1, 1, 0), NO);
    }

    private void markIs(KnifeDesk x, String of, String point) {
        String[] p = of.split("[ /]+");
        int[] v = new int[4];
        for (int k = 0; k < 4; k++) {
            v[k] = Integer.parseInt(p[k]);
        }
        if (point.equals("NO")) {
            due.is("above, from " + of, x.mark(0, v[0], v[1], v[2], v[3], 0), NO);
            due.is("below, from " + of, x.mark(0, v[0], v[1], v[2], v[3], 1), NO);
        } else {
            due.isText("mark from " + of, Due.mark(x, 0, v[0], v[1], v[2], v[3]), point);
        }
    }

    private void mark() {
        // told 8 in all, of another worth
        KnifeDesk x = Due.desk(2, 2, "w0:9,9;t0:3,5");
        due.sentence(8, "b 1 .. 1000");
        markIs(x, "1/1 1/20", "27/25");
        markIs(x, "1000/1000 1/20", "27/25");
        markIs(x, "0/0 1/2", "NO");
        markIs(x, "0/1001 1/2", "NO");
        markIs(x, "0/-1 1/2", "NO");
        due.sentence(8, "y 1 .. 20");
        markIs(x, "0/1 1/1", "2");
        markIs(x, "0/1 20/20", "2");
        markIs(x, "0/1 1/20", "2/15");
        markIs(x, "0/1 1/21", "NO");
        markIs(x, "0/1 0/21", "NO");
        markIs(x, "0/1 0/0", "NO");
        markIs(x, "0/1 0/-1", "NO");
        markIs(x, "0/1 -1/-1", "NO");
        due.sentence(8, "x any int not below 0");
        markIs(x, "0/1 0/1", "0");
        markIs(x, "0/1 0/20", "0");
        markIs(x, "0/1 -1/20", "NO");
        markIs(x, "0/1 " + LEAST + "/1", "NO");
        markIs(x, "0/1 " + MOST + "/20", "NO");
        markIs(x, "0/1 " + MOST + "/1", "NO");
        due.sentence(8, "NO: also there is not as much");
        markIs(x, "0/1 19/20", "48/25");
        markIs(x, "0/1 21/20", "NO");
        markIs(x, "3/2 5/16", "2");
        markIs(x, "3/2 6/16", "NO");
        markIs(x, "1501/1000 5/16", "NO");
        markIs(x, "2/1 1/20", "NO");
        due.sentence(8, "v 0: the POINT told itself");
        markIs(x, "2000/1000 0/7", "2");
        markIs(x, "6/4 0/1", "3/2");
        KnifeDesk none = Due.desk(2, 2, "t0:0,0");
        markIs(none, "0/1 " + MOST + "/1", "0");
        markIs(none, "7/4 1/20", "7/4");
        markIs(none, "8/4 " + MOST + "/20", "2");
        markIs(none, "9/4 1/20", "NO");
        due.sentence(8, "a POINT is a number 0 .. S");
        markIs(x, "2001/1000 0/1", "NO");
        markIs(x, "3/1 0/1", "NO");
        markIs(x, "-1/1000 0/1", "NO");
        markIs(x, MOST + "/1000 0/1", "NO");
        markIs(Due.desk(16, 2, ""), "16000/1000 0/1", "16");
        markIs(Due.desk(16, 2, ""), "16001/1000 0/1", "NO");
        due.sentence(8, "the least POINT p from there on so that its TOLD WORTH of the SPAN from there to p is v");
        KnifeDesk gaps = Due.desk(6, 2, "t0:0,2,0,0,2,0");
        markIs(gaps, "0/1 1/2", "2");
        markIs(gaps, "3/2 1/4", "2");
        markIs(gaps, "0/1 11/20", "41/10");
        markIs(gaps, "5/2 1/4", "9/2");
        markIs(gaps, "0/1 2/2", "5");
        markIs(gaps, "5/2 0/2", "5/2");
        markIs(gaps, "2/1 0/2", "2");
        markIs(gaps, "5/1 1/20", "NO");
        KnifeDesk large = Due.desk(16, 2, "t0:9,9,9,9,9,9,9,9,9,9,9,9,9,9,9,9");
        markIs(large, "1/1000 19/20", "15201/1000");
        markIs(large, "1/999 1/20", "4001/4995");
        due.sentence(8, "above (part 0), below (1)");
        due.is("part -1", x.mark(0, 0, 1, 1, 2, -1), NO);
        due.is("part 2", x.mark(0, 0, 1, 1, 2, 2), NO);
        due.sentence(8, "AGENTS 0 .. n - 1");
        due.is("agent 1", x.mark(1, 0, 1, 1, 2, 0), 1);
        due.is("agent 2", x.mark(2, 0, 1, 1, 2, 0), NO);
        due.is("agent -1", x.mark(-1, 0, 1, 1, 2, 0), NO);
    }

    private void exact() {
        due.sentence(9, "where it begins above (what 0), below the line (1), where it ends (2, 3)");
        KnifeDesk x = Due.desk(2, 3, "w0:3,5;w1:1,9");
        long[] half = {1, 2, 3, 2};
        for (int what = 0; what < 4; what++) {
            due.is("exact(0, 1, " + what + ")", x.exact(0, 1, what), half[what]);
        }
        due.is("what -1", x.exact(0, 1, -1), NO);
        due.is("what 4", x.exact(0, 1, 4), NO);
        due.sentence(9, "NO: the same");
        for (int i = 0; i < 3; i++) {
            due.is("exact(" + i + ", " + i + ", 0)", x.exact(i, i, 0), NO);
        }
        due.sentence(9, "AGENTS 0 .. n - 1");
        due.isText("the last agent", Due.exact(x, 2, 0), Due.exact(x, 0, 2));
        due.is("i 3", x.exact(3, 0, 0), NO);
        due.is("j 3", x.exact(0, 3, 0), NO);
        due.is("i -1", x.exact(-1, 0, 0), NO);
        due.is("j -1", x.exact(0, -1, 0), NO);
        due.sentence(9, "NO: some STRIP of which either TELLS 0");
        for (int strips : new int[] {2, 8, 16}) {
            for (int s = 0; s < strips; s++) {
                KnifeDesk y = Due.desk(strips, 2, "");
                y.tells(0, s, 0);
                due.is("exact(0, 1) without strip " + s + " of " + strips, y.exact(0, 1, 0), NO);
                due.is("exact(1, 0) without strip " + s + " of " + strips, y.exact(1, 0, 3), NO);
                y.tells(0, s, 1);
                due.isText("with it", Due.exact(y, 1, 0), "0-" + strips / 2);
            }
        }
        // WORTH 0 is no hindrance, if 1 is told
        KnifeDesk y = Due.desk(2, 2, "w0:0,0;t0:1,1");
        due.isText("by what is told", Due.exact(y, 0, 1), "0-1");
        due.sentence(9, "the SPAN with the least beginning whose TOLD WORTH is half of THE CAKE's for each of both");
        due.isText("from 0 on", Due.exact(Due.desk(2, 2, "w0:9,9;w1:1,1"), 0, 1), "0-1");
        // half of the second's is 1 wide: 9 (1 - a) + 3 a is 6
        due.isText("unlike", Due.exact(Due.desk(2, 2, "w0:9,3;w1:1,1"), 0, 1), "1/2-3/2");
        // just half at 0, at 1 and at 2: the least
        due.isText("three of them", Due.exact(Due.desk(4, 2, "w0:1,1,1,1;w1:2,5,2,5"), 0, 1), "0-2");
        exactCorners();
    }

    private void exactCorners() {
        // where one end of the span comes to a strip's end ahead of the other one
        int[][] rows = {{1, 1, 1, 3, 1, 1, 1, 3}, {1, 1, 1, 1, 9, 9, 9, 9}, {9, 1, 9, 1, 9, 1, 9, 1}, {1, 2, 3, 4, 5, 6, 7, 8},
            {8, 7, 6, 5, 4, 3, 2, 1}, {1, 9, 1, 1, 9, 1, 1, 9}, {2, 7, 1, 8, 2, 8, 1, 8}, {3, 1, 4, 1, 5, 9, 2, 6}};
        for (int[] one : rows) {
            for (int[] two : rows) {
                KnifeDesk x = new KnifeDesk();
                Oracle o = new Oracle();
                for (int s = 0; s < 8; s++) {
                    x.worth(1, s, one[s]);
                    o.worth(1, s, one[s]);
                    x.worth(2, s, two[s]);
                    o.worth(2, s, two[s]);
                }
                for (int what = 0; what < 4; what++) {
                    due.is("exact(1, 2, " + what + ") of " + java.util.Arrays.toString(one) + java.util.Arrays.toString(two),
                        x.exact(1, 2, what), o.exact(1, 2, what));
                }
            }
        }
    }

    public static void main(String[] args) {
        CakeEdgesTest test = new CakeEdgesTest();
        test.newDesk();
        test.begin();
        test.tellsEdges(0);
        test.tellsEdges(1);
        test.worthIsTold();
        test.honest();
        test.strip();
        test.span();
        test.mark();
        test.exact();
        test.due.end("CakeEdgesTest");
    }
}
