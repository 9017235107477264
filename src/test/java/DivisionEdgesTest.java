/** Promises 18 to 23 at their edges: just as much, a little more, nothing at all; what there is most of. */
public final class DivisionEdgesTest {
    private static final int BAD = KnifeDesk.BAD, STATE = KnifeDesk.STATE;
    private static final long NO = KnifeDesk.NO;
    private final Due due = new Due();

    private static KnifeDesk told(int strips, int agents, String worths, String division) {
        KnifeDesk x = Due.desk(strips, agents, worths);
        Due.divides(x, division);
        return x;
    }

    private void gets() {
        due.sentence(18, "WORTH (how 0), TOLD WORTH (1) for an AGENT of another one's (or its own) SHARE: above, below (part)");
        KnifeDesk x = told(4, 2, "w0:4,0,6,1;t0:0,0,0,2", "0=0-1/2,5/2-7/2;1=1-2");
        due.isText("its own, two spans", Due.gets(x, 0, 0, 0), "11/2");
        due.isText("as told", Due.gets(x, 0, 0, 1), "1");
        due.isText("another one's, worth nothing: 0 by 1", Due.gets(x, 0, 1, 0), "0");
        due.isText("for the last agent", Due.gets(x, 1, 0, 1), "3/2");
        due.sentence(18, "by WORTHS as they are when it is asked");
        x.worth(0, 1, 9);
        due.isText("another one's", Due.gets(x, 0, 1, 0), "9");
        x.tells(0, 1, 8);
        due.isText("another one's, as told", Due.gets(x, 0, 1, 1), "8");
        due.sentence(18, "NO");
        due.is("how -1", x.gets(0, 0, -1, 0), NO);
        due.is("how 2", x.gets(0, 0, 2, 0), NO);
        due.is("part -1", x.gets(0, 0, 0, -1), NO);
        due.is("part 2", x.gets(0, 0, 0, 2), NO);
        due.is("agent -1", x.gets(-1, 0, 0, 0), NO);
        due.is("agent 2", x.gets(2, 0, 0, 0), NO);
        due.is("other -1", x.gets(0, -1, 0, 0), NO);
        due.is("other 2", x.gets(0, 2, 0, 0), NO);
        due.is("no division", Due.desk(4, 2, "").gets(0, 0, 0, 0), NO);
        due.sentence(18, "AGENTS not told have no SPANS: 0 by 1");
        x = told(4, 5, "", "0=0-4");
        due.is("above", x.gets(0, 4, 0, 0), 0);
        due.is("below", x.gets(0, 4, 0, 1), 1);
        due.isText("all of it", Due.gets(x, 4, 0, 0), "4");
        due.sentence(18, "empty SPANS: 0 by 1");
        x = told(4, 2, "w0:9,9,9,9", "0=1/3-1/3,4-4");
        due.is("above", x.gets(0, 0, 0, 0), 0);
        due.is("below", x.gets(0, 0, 0, 1), 1);
    }

    private void envies() {
        due.sentence(19, "AGENT i ENVIES j: j's SHARE has more WORTH for i than i's");
        due.is("just as much", told(4, 2, "", "0=0-2;1=2-4").envies(0, 0), 0);
        due.is("just as much, the other way", told(4, 2, "", "0=0-2;1=2-4").envies(1, 0), 0);
        due.is("a little less", told(4, 2, "", "0=0-98/50;1=98/50-4").envies(0, 0), 2);
        due.is("of whom it has less", told(4, 2, "", "0=0-98/50;1=98/50-4").envies(1, 0), 0);
        due.is("as much in other parts", told(4, 2, "w0:2,1,1,4", "0=0-1/2,2-3;1=1-2,15/4-4").envies(0, 0), 0);
        due.is("nothing, of nothing", told(4, 2, "", "0=0-0").envies(0, 0), 0);
        due.is("nothing, of something", told(4, 2, "", "1=0-1/999").envies(0, 0), 2);
        due.is("it is worth nothing", told(4, 2, "w0:0,0,0,0", "1=0-4").envies(0, 0), 0);
        due.sentence(19, "AGENTS (bits)");
        for (int agents = 2; agents <= 5; agents++) {
            // the last one has all
            KnifeDesk x = told(4, agents, "", (agents - 1) + "=0-4");
            for (int i = 0; i < agents - 1; i++) {
                due.is("agent " + i + " of " + agents, x.envies(i, 0), 1 << agents - 1);
            }
            due.is("the last of " + agents, x.envies(agents - 1, 0), 0);
            due.is("agent " + agents, x.envies(agents, 0), BAD);
        }
        due.is("all others", told(5, 5, "", "0=0-1;1=1-2;3=2-3;4=3-4").envies(2, 0), 27);
        due.sentence(19, "by WORTHS (how 0), by what it TELLS (1)");
        KnifeDesk x = told(2, 2, "w0:1,2;t0:2,1", "0=0-1;1=1-2");
        due.is("worths", x.envies(0, 0), 2);
        due.is("told", x.envies(0, 1), 0);
        due.is("how 2", x.envies(0, 2), BAD);
        due.is("how -1", x.envies(0, -1), BAD);
        due.is("agent -1", x.envies(-1, 0), BAD);
        due.sentence(19, "STATE");
        x.begin(2, 2);
        due.is("no division", x.envies(0, 1), STATE);
        due.is("BAD ahead of it", x.envies(0, 2), BAD);
    }

    private void fair() {
        due.sentence(20, "FAIR: i's SHARE has at least THE CAKE's by n for i");
        for (int agents = 2; agents <= 5; agents++) {
            int strips = 2 * agents;
            due.is("just that", told(strips, agents, "", "0=0-2").fair(0), 1);
            due.is("a little less", told(strips, agents, "", "0=0-99/50").fair(0), 0);
            due.is("a little more", told(strips, agents, "", "0=0-99/49").fair(0), 1);
            due.is("the last one", told(strips, agents, "", (agents - 1) + "=2-4").fair(1), 1 << agents - 1);
        }
        due.is("16 by 5", told(16, 5, "", "4=0-16/5").fair(0), 16);
        due.is("less than 16 by 5", told(16, 5, "", "4=0-99/31").fair(0), 0);
        due.is("two spans, just a half", told(4, 2, "w0:1,2,3,4", "0=1-2,9/4-51/16").fair(0), 1);
        due.is("two spans, less", told(4, 2, "w0:1,2,3,4", "0=1-2,9/4-50/16").fair(0), 0);
        due.is("two spans, enough", told(4, 2, "w0:1,2,3,4", "0=1-2,2-3;1=0-1,3-4").fair(0), 3);
        due.is("of nothing, nothing", told(4, 3, "w0:0,0,0,0;w1:0,0,0,0", "0=0-1").fair(0), 3);
        due.is("of something, nothing", told(4, 3, "w0:0,0,0,1", "0=0-3").fair(0), 0);
        due.sentence(20, "by WORTHS (how 0), by what they TELL (1)");
        KnifeDesk x = told(2, 2, "w0:1,2;t0:2,1", "0=0-1;1=1-2");
        due.is("worths", x.fair(0), 2);
        due.is("told", x.fair(1), 3);
        due.is("how 2", x.fair(2), BAD);
        due.is("how -1", x.fair(-1), BAD);
        due.sentence(20, "STATE");
        x.begin(2, 2);
        due.is("no division", x.fair(0), STATE);
        due.is("BAD ahead of it", x.fair(-1), BAD);
    }

    private void exchange() {
        due.sentence(21, "that by which WORTHS of what each gets are most together");
        due.is("as it is", told(2, 2, "w0:2,1;w1:1,2", "0=0-1;1=1-2").exchange(), 1);
        due.is("changed", told(2, 2, "w0:1,2;w1:2,1", "0=0-1;1=1-2").exchange(), 10);
        due.is("a little more", told(2, 2, "w0:9,9;w1:9,9", "0=0-1;1=2-2").exchange(), 1);
        due.is("by a little", told(2, 2, "w0:5,5;w1:5,6", "0=1-2;1=0-1").exchange(), 10);
        due.sentence(21, "of several that by which AGENT 0 gets the SHARE of the least AGENT, then AGENT 1, and so on");
        int[] asItIs = {1, 12, 123, 1234};
        int[] lastForSecond = {1, 120, 1203, 12034};
        for (int agents = 2; agents <= 5; agents++) {
            due.is("all alike, " + agents, told(5, agents, "", "0=0-1;1=1-2").exchange(), asItIs[agents - 2]);
            due.is("worth nothing for two, " + agents, told(2, agents, "w0:0,0;w1:0,0", "0=0-2").exchange(), lastForSecond[agents - 2]);
        }
        due.is("agent 0 has two like ones", told(3, 3, "w0:0,5,5;w1:0,0,0;w2:0,0,0", "0=0-1;1=1-2;2=2-3").exchange(), 102);
        due.is("agent 1 has two like ones", told(4, 4, "w1:0,0,5,5", "0=0-1;1=1-2;2=2-3;3=3-4").exchange(), 213);
        due.is("agent 2 has two like ones", told(5, 5, "w2:0,0,0,5,5", "0=0-1;1=1-2;2=2-3;3=3-4;4=4-5").exchange(), 1324);
        due.sentence(21, "figures of one number (n of them, with 0 ahead)");
        due.is("n 2", told(2, 2, "w0:0,1", "0=0-1;1=1-2").exchange(), 10);
        due.is("n 5, all turned", told(5, 5, "w0:0,0,0,0,1;w1:0,0,0,2,0;w2:0,0,3,0,0;w3:0,4,0,0,0;w4:5,0,0,0,0",
            "0=0-1;1=1-2;2=2-3;3=3-4;4=4-5").exchange(), 43210);
        due.is("n 5, round", told(5, 5, "w0:0,9,0,0,0;w1:0,0,9,0,0;w2:0,0,0,9,0;w3:0,0,0,0,9;w4:9,0,0,0,0",
            "0=0-1;1=1-2;2=2-3;3=3-4;4=4-5").exchange(), 12340);
        due.sentence(21, "by WORTHS");
        due.is("not as told", told(2, 2, "t0:0,9;t1:9,0", "0=0-1;1=1-2").exchange(), 1);
        due.sentence(21, "STATE");
        due.is("no division", new KnifeDesk().exchange(), STATE);
    }

    private void cutsAre(int strips, String division, int cuts) {
        due.is("cuts() of " + division, told(strips, 5, "", division).cuts(), cuts);
    }

    private void cuts() {
        due.sentence(22, "CUTS: unlike POINTS");
        cutsAre(8, "0=1-2", 2);
        cutsAre(8, "0=1-2;1=2-3", 3);
        cutsAre(8, "0=1/2-2/2;1=3/3-3/2", 3);
        cutsAre(8, "0=1-2,3-4;1=2-3,4-5", 5);
        due.sentence(22, "not 0, not S");
        for (int strips = 2; strips <= 16; strips++) {
            cutsAre(strips, "0=0-" + strips, 0);
            cutsAre(strips, "0=0-1;1=1-" + strips, 1);
            cutsAre(strips, "0=0/3-" + strips * 2 + "/2", 0);
            cutsAre(strips, "0=1/2-" + (strips * 2 - 1) + "/2", 2);
            cutsAre(strips, "0=1/999-" + (strips * 6 - 1) + "/6", 2);
        }
        due.sentence(22, "some SPAN that isn't empty; An empty SPAN counts in SHARE, not in CUTS");
        cutsAre(8, "0=1-1,2-2;1=3-3", 0);
        cutsAre(8, "0=1-1;1=1-2", 2);
        cutsAre(8, "0=1-1;1=0-2", 1);
        due.is("no spans", told(8, 2, "", "0=0-0").cuts(), 0);
        due.sentence(22, "at which some SPAN begins or ends");
        // as many as there can be: 20
        cutsAre(16, "0=1/2-1,3/2-2;1=5/2-3,7/2-4;2=9/2-5,11/2-6;3=13/2-7,15/2-8;4=17/2-9,19/2-10", 20);
        KnifeDesk x = told(16, 5, "", "0=1/2-1,3/2-2;1=5/2-3,7/2-4;2=9/2-5,11/2-6;3=13/2-7,15/2-8;4=17/2-9,19/2-10");
        due.is("asked once", x.cuts(), 20);
        due.is("asked again", x.cuts(), 20);
        Due.divides(x, "0=1-2");
        due.is("of a smaller one then", x.cuts(), 2);
        Due.divides(x, "0=3-4;1=1/2-1");
        due.is("of points that were cuts ahead", x.cuts(), 4);
        x.begin(2, 2);
        due.sentence(22, "STATE");
        due.is("no division", x.cuts(), STATE);
        due.sentence(22, "of ways");
        x.shares(1, 0);
        due.is("one", x.cuts(), 1);
        Due.worths(x, "t0:0,0;t1:0,0");
        x.shares(1, 0);
        due.is("0-0 and all of it", x.cuts(), 0);
    }

    private void off() {
        due.sentence(23, "OFF: WORTH for an AGENT of all that was TRIMMED off by THE LOG (0: 0 by 1)");
        KnifeDesk x = Due.desk(3, 3, "");
        x.shares(4, 0);
        due.is("passed, above", x.off(0, 0, 0), 0);
        due.is("passed, below", x.off(0, 0, 1), 1);
        for (int agents = 2; agents <= 5; agents++) {
            KnifeDesk y = Due.desk(3, agents, "");
            for (int way = 1; way <= 3; way++) {
                y.shares(way, 0);
                due.isText("no trims by way " + way + " of " + agents, Due.off(y, agents - 1, 0), "0");
                due.isText("nothing left by way " + way + " of " + agents, Due.off(y, agents - 1, 1), "0");
            }
        }
        Due.worths(x, "w1:0,2,4;w2:5,7,8;t2:0,0,0");
        x.shares(4, 0);
        due.is("trimmed, from 5/2 to 3", x.event(2, 0), 1);
        due.isText("for one", Due.off(x, 0, 0), "1/2");
        due.isText("for who trimmed", Due.off(x, 1, 0), "2");
        due.isText("by worths, not as told", Due.off(x, 2, 0), "4");
        due.isText("all is shared", Due.off(x, 2, 1), "0");
        due.sentence(23, "SPANS from where TRIMS were MARKED to where what was TRIMMED ended, together");
        x = Due.desk(4, 3, "t0:1,1,1,1;t1:2,1,1,1;t2:5,1,1,1");
        x.shares(2, 0);
        // 5/6 to 4/3 and 8/15 to 5/6, then 61/30 to 34/15
        due.isText("the log", Due.log(x), "m0 4/3;t1 5/6;t2 8/15;g2 0-8/15;m0 34/15;t1 61/30;g1 8/15-61/30;g0 61/30-4;");
        due.isText("together", Due.off(x, 0, 0), "31/30");
        due.sentence(23, "OFF of a told DIVISION is 0 by 1, LEFT is by WORTHS");
        Due.divides(x, "0=1/2-1;2=3-3");
        due.is("above", x.off(0, 0, 0), 0);
        due.is("below", x.off(0, 0, 1), 1);
        Due.worths(x, "w0:4,3,2,1;t0:9,9,9,9");
        due.isText("left", Due.off(x, 0, 1), "8");
        due.sentence(23, "LEFT: WORTH of all that is in no SHARE");
        Due.divides(x, "0=2-2");
        due.isText("all of it", Due.off(x, 0, 1), "10");
        Due.divides(x, "0=0-1,2-3;1=3-4;2=1-2");
        due.is("nothing, above", x.off(0, 1, 0), 0);
        due.is("nothing, below", x.off(0, 1, 1), 1);
        Due.divides(x, "1=0-1/3");
        due.isText("what is left is worth", Due.off(x, 0, 1), "26/3");
        due.sentence(23, "OFF (what 0), LEFT (1): above, below (part). NO");
        due.is("what -1", x.off(0, -1, 0), NO);
        due.is("what 2", x.off(0, 2, 0), NO);
        due.is("part -1", x.off(0, 0, -1), NO);
        due.is("part 2", x.off(0, 0, 2), NO);
        due.is("agent -1", x.off(-1, 0, 0), NO);
        due.is("agent 3", x.off(3, 0, 0), NO);
        x.begin(4, 3);
        due.is("no division", x.off(0, 0, 0), NO);
        due.is("no division", x.off(0, 1, 0), NO);
    }

    public static void main(String[] args) {
        DivisionEdgesTest test = new DivisionEdgesTest();
        test.gets();
        test.envies();
        test.fair();
        test.exchange();
        test.cuts();
        test.off();
        test.due.end("DivisionEdgesTest");
    }
}
