/**
 * Promises 12 to 26 by large numbers: units of seven to nine figures, worths and sums of them beyond 32 bits, the longest logs.
 * The cakes were looked for by small changes, as long as the unit, the log or what is trimmed off grew.
 */
public final class LargeTest {
    /** A way, and a cake by which what comes of it is large. */
    private static final String[][] CAKES = {
        // units 9185400, 97977600, 6123600, 419904
        {"1", "w0:7,0,4,9;w1:2,1,9,3;w2:5,0,1,8;w3:9,4,9,1;w4:5,9,9,6"},
        {"2", "w0:8,5,1,3;w1:3,7,4,9;w2:9,8,2,1;w3:6,5,8,0;w4:1,9,2,8"},
        {"3", "w0:3,9,5,8;w1:9,0,8,9;w2:7,5,9,8;w3:1,3,0,7;w4:8,3,1,8"},
        {"4", "w0:1,9,8,8,9,6;w1:4,9,8,5,7,0;w2:1,8,9,0,1,7"},
        // logs of 272, 296, 246, 191 bytes
        {"1", "w0:8,0,8,5,7,7,9,7,0,8,1,7;w1:2,5,9,1,8,7,0,2,1,0,8,5;w2:2,2,5,9,7,7,0,0,6,6,5,7;w3:1,4,1,5,5,7,3,9,6,8,4,9;"
            + "w4:0,2,2,8,9,4,7,0,3,0,3,9"},
        {"2", "w0:1,3,1,0,1,1,8,1,8,3,6,7,3,1,6,6;w1:3,2,2,3,1,5,9,1,8,9,5,5,0,4,9,0;w2:5,0,2,8,9,8,2,9,6,5,2,5,5,0,1,7;"
            + "w3:0,5,2,8,8,4,1,3,2,6,0,7,1,7,8,0;w4:0,8,7,1,8,3,4,8,7,9,3,5,1,2,1,6"},
        {"3", "w0:4,3,4,4,9,6,9,4,7,1,8,6,7,0,7,7;w1:2,7,9,0,5,0,1,8,1,1,8,9,6,5,6,1;w2:0,6,0,3,0,3,7,0,3,8,9,8,2,2,3,8;"
            + "w3:2,0,5,9,8,0,1,4,4,4,8,5,5,0,4,9;w4:0,7,8,4,6,8,4,6,4,0,7,5,9,2,6,6"},
        {"4", "w0:2,0,0,2,8,9,7,3,0,7,0,0;w1:5,4,7,4,9,2,6,5,7,9,7,4;w2:7,3,2,9,3,7,6,4,3,2,8,7"},
        // 26424771851 above the line of what is trimmed off
        {"2", "w0:1,0,1,0,0,0,1,0,0,1,0,5,7,9,9,9;w1:0,0,5,9,0,7,0,2,7,1,4,1,1,0,2,1;w2:1,4,0,7,1,8,9,0,4,0,3,2,1,0,0,1;"
            + "w3:3,1,1,2,5,0,9,8,0,0,0,0,1,0,0,0;w4:9,9,8,9,8,8,8,9,9,9,9,8,9,7,1,1"},
        // for the last two the rest is worth above 100, at a unit of 97977600
        {"2", "w0:6,1,2,6,8,9,9,9,9,9,9,9,9,9,9,9;w1:6,7,5,8,9,1,0,5,1,2,5,0,1,0,0,0;w2:8,4,0,0,9,9,9,9,9,9,9,9,9,9,9,9;"
            + "w3:3,5,9,0,0,0,0,3,1,4,0,0,1,1,0,0;w4:9,8,4,4,9,3,7,1,0,5,1,0,0,3,0,0"},
        // the same, ahead of the last mark already
        {"2", "w0:9,5,0,5,7,4,3,8,4,9,3,1,6,3,2,8;w1:8,4,0,0,0,0,0,0,1,2,3,1,2,3,0,1;w2:2,1,7,9,9,9,9,9,9,9,9,9,9,9,9,9;"
            + "w3:9,1,8,9,2,0,0,0,1,1,0,0,3,0,1,0;w4:7,9,1,1,0,0,2,0,2,6,0,0,1,0,1,3"},
        {"2", "w0:1,7,9,0,0,0,0,1,1,1,6,0,0,5,0,0;w1:2,9,7,9,1,5,4,8,7,8,2,9,9,1,9,2;w2:5,4,8,9,9,9,9,9,9,9,9,9,9,9,9,9;"
            + "w3:5,5,9,8,1,2,0,1,0,2,1,0,2,0,0,0;w4:9,8,1,1,6,1,6,2,0,0,3,2,0,1,6,0"}};
    /** Divisions whose units are nine figures long, or nearly. */
    private static final String[] DIVISIONS = {
        "0=1/990-50/137,55/101-99/73;1=2-3", "1=1/990-50/137,55/101-99/73;0=2-3,15-16", "0=1/990-50/137,55/101-99/73;1=2-12",
        "1=0-1/990,99/137-73/101;0=73/101-99/73,3-14;2=2-3", "4=1/997-99/991,1/2-16;3=1/97-1/97,1/5-2/5",
        "0=1/601-99/89,14-16;1=99/89-99/83,3-4;2=99/83-99/71,6-13", "0=0-89/997,16/5-16;1=89/991-16/9;2=16/9-16/7",
        "2=1/998-99/97,98/93-99/61;0=99/61-8;1=8-31/2", "3=8/999-97/96,99/94-99/59;4=99/59-99/7", "0=0-98/997;1=98/997-98/991;2=98/991-98/13;3=98/13-16"};
    private final Due due = new Due();
    private KnifeDesk desk;
    private Oracle oracle;
    private int strips;
    private int agents;

    /** A desk and its second reckoning with like worths: as they are told in parts, one for each agent. */
    private void lay(int ofStrips, String worths) {
        String[] rows = worths.split(";");
        strips = ofStrips;
        agents = rows.length;
        desk = new KnifeDesk();
        oracle = new Oracle();
        desk.begin(strips, agents);
        oracle.begin(strips, agents);
        for (int i = 0; i < agents; i++) {
            String[] row = rows[i].substring(3).split(",");
            for (int s = 0; s < row.length; s++) {
                desk.worth(i, s, Integer.parseInt(row[s]));
                oracle.worth(i, s, Integer.parseInt(row[s]));
            }
        }
    }

    private void layCake(int cake) {
        lay(CAKES[cake][1].split(";")[0].split(",").length, CAKES[cake][1]);
    }

    private void onTheDivision(String name) {
        for (int i = 0; i < agents; i++) {
            for (int how = 0; how < 2; how++) {
                for (int part = 0; part < 2; part++) {
                    for (int j = 0; j < agents; j++) {
                        due.promise(18);
                        due.is(name + ": gets(" + i + ", " + j + ", " + how + ", " + part + ")", desk.gets(i, j, how, part), oracle.gets(i, j, how, part));
                    }
                    due.promise(23);
                    due.is(name + ": off(" + i + ", " + how + ", " + part + ")", desk.off(i, how, part), oracle.off(i, how, part));
                }
                due.promise(19);
                due.is(name + ": envies(" + i + ", " + how + ")", desk.envies(i, how), oracle.envies(i, how));
            }
        }
        for (int how = 0; how < 2; how++) {
            due.promise(20);
            due.is(name + ": fair(" + how + ")", desk.fair(how), oracle.fair(how));
        }
        due.promise(21);
        due.is(name + ": exchange()", desk.exchange(), oracle.exchange());
        due.promise(22);
        due.is(name + ": cuts()", desk.cuts(), oracle.cuts());
        due.promise(34);
        due.is(name + ": count(3)", desk.count(3), oracle.count(3));
    }

    private void told(String worths) {
        for (String division : DIVISIONS) {
            lay(16, worths);
            for (int i = 0; i < division.length(); i++) {
                desk.feed(division.charAt(i));
                oracle.feed(division.charAt(i));
            }
            due.promise(12);
            due.is("divides() of " + division, desk.divides(), oracle.divides());
            due.is(division + " is a division", desk.count(2), 1);
            onTheDivision(division + " of " + worths);
        }
    }

    private void way(int cake, int from) {
        int way = Integer.parseInt(CAKES[cake][0]);
        String name = "shares(" + way + ", " + from + ") of " + CAKES[cake][1];
        layCake(cake);
        due.promise(15);
        due.is(name, desk.shares(way, from), oracle.shares(way, from));
        onTheDivision(name);
        layCake(cake);
        desk.shares(way, from);
        oracle.shares(way, from);
        due.promise(16);
        for (int k = 0; k < oracle.count(6); k++) {
            for (int what = 0; what < 6; what++) {
                due.is(name + ": event(" + k + ", " + what + ")", desk.event(k, what), oracle.event(k, what));
            }
        }
        due.promise(17);
        for (int i = 0; i < agents; i++) {
            for (int k = 0; k < 2; k++) {
                for (int what = 0; what < 4; what++) {
                    due.is(name + ": share(" + i + ", " + k + ", " + what + ")", desk.share(i, k, what), oracle.share(i, k, what));
                }
            }
        }
        layCake(cake);
        desk.shares(way, from);
        oracle.shares(way, from);
        due.promise(13);
        due.is(name + ": prints()", desk.prints(), oracle.prints());
        due.promise(14);
        due.is(name + ": paper(-1)", desk.paper(-1), oracle.paper(-1));
        for (int i = 0; i <= oracle.paper().length(); i++) {
            due.is(name + ": paper(" + i + ")", desk.paper(i), oracle.paper(i));
        }
    }

    private void thought(int cake, int from) {
        layCake(cake);
        for (int i = 0; i < agents; i++) {
            for (int way = 0; way < 5; way++) {
                due.promise(24);
                for (int part = 0; part < 2; part++) {
                    due.is("would(" + way + ", " + from + ", " + i + ", " + part + ") of " + CAKES[cake][1], desk.would(way, from, i, part),
                        oracle.would(way, from, i, part));
                }
            }
            due.promise(26);
            due.is("best(" + i + ", " + from + ") of " + CAKES[cake][1], desk.best(i, from), oracle.best(i, from));
        }
    }

    /** The second reckoning of a lie is slow: small cakes alone. */
    private void lie(int cake, int from, int agent) {
        int way = Integer.parseInt(CAKES[cake][0]);
        layCake(cake);
        due.promise(25);
        for (int what = 0; what < 3; what++) {
            due.is("lie(" + way + ", " + from + ", " + agent + ", " + what + ") of " + CAKES[cake][1], desk.lie(way, from, agent, what),
                oracle.lie(way, from, agent, what));
        }
    }

    private void largest() {
        due.sentence(12, "THE UNIT: the least number by which all POINTS, times it, are whole");
        lay(16, "w0:7,7,7,7,7,7,7,7,7,7,7,7,7,7,7,7;w1:9");
        due.is("divides()", Due.divides(desk, "0=1/990-50/137,55/101-99/73"), 1);
        due.is("its unit", desk.count(3), 999999990);
        // seven times 50/137 - 1/990 and 99/73 - 55/101, by 990, 137, 101, 73
        long parts = 50L * 990 * 101 * 73 - 137L * 101 * 73 + 99L * 990 * 137 * 101 - 55L * 990 * 137 * 73;
        due.sentence(18, "above, below");
        due.is("gets(0, 0, 0, 0)", desk.gets(0, 0, 0, 0), 7 * parts);
        due.is("gets(0, 0, 0, 1)", desk.gets(0, 0, 0, 1), 999999990);
        due.sentence(23, "LEFT");
        due.is("off(0, 1, 0)", desk.off(0, 1, 0), 7 * (16 * 999999990L - parts));
        due.is("off(0, 1, 1)", desk.off(0, 1, 1), 999999990);
        due.sentence(19, "has more WORTH");
        due.is("envies(0, 0)", desk.envies(0, 0), 0);
        due.is("envies(1, 0)", desk.envies(1, 0), 1);
        due.sentence(20, "at least THE CAKE's by n");
        due.is("fair(0)", desk.fair(0), 0);
        int[] units = {9185400, 97977600, 6123600, 419904};
        int[] bytes = {272, 296, 246, 191};
        for (int k = 0; k < 4; k++) {
            layCake(k);
            due.sentence(15, "THE UNIT: all POINTS of MARKS made, times it, are whole");
            due.is("events", desk.shares(Integer.parseInt(CAKES[k][0]), 0) > 0 ? 1 : 0, 1);
            due.is("the unit", desk.count(3), units[k]);
            layCake(4 + k);
            due.sentence(13, "How many bytes");
            desk.shares(Integer.parseInt(CAKES[4 + k][0]), 0);
            due.is("the log", desk.prints(), bytes[k]);
        }
        layCake(8);
        desk.shares(2, 0);
        due.sentence(23, "OFF");
        due.is("above", desk.off(4, 0, 0), 26424771851L);
    }

    public static void main(String[] args) {
        LargeTest test = new LargeTest();
        test.largest();
        test.told("w0:9,8,7,9,8,7,9,8,7,9,8,7,9,8,7,9;w1:7,7,7,7,7,7,7,7,7,7,7,7,7,7,7,7;w2:1,9,1,9,1,9,1,9,1,9,1,9,1,9,1,9;"
            + "w3:9,9,9,9,9,9,9,9,9,9,9,9,9,9,9,9;w4:8,1,8,1,8,1,8,1,8,1,8,1,8,1,8,1");
        test.told("w0:1,1,1,1,1,1,1,1,1,1,1,1,1,1,1,1;w1:0,0,9,9,9,9;w2:5,5,5,5,0,0,0,0,7,7,7,7,7,7,7,7;w3:7,9,9,9,0,0,0,0,0,0,0,0,0,0,0,3;"
            + "w4:0,0,0,0,0,0,0,0,0,9,9,9,9,9,9,9");
        for (int cake = 0; cake < CAKES.length; cake++) {
            for (int from = 0; from < CAKES[cake][1].split(";").length; from++) {
                test.way(cake, from);
                test.thought(cake, from);
            }
        }
        for (int cake = 0; cake < 4; cake++) {
            for (int from = 0; from < CAKES[cake][1].split(";").length; from++) {
                test.lie(cake, from, 0);
                test.lie(cake, from, from);
            }
        }
        test.due.end("LargeTest");
    }
}
