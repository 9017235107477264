/** Promises 10 to 14 at their edges: the tape empty and full, each fault of the texts where it begins, the paper's ends. */
public final class TextsEdgesTest {
    private static final int LEAST = Integer.MIN_VALUE, MOST = Integer.MAX_VALUE, BAD = KnifeDesk.BAD, STATE = KnifeDesk.STATE;
    private static final long NO = KnifeDesk.NO;
    private final Due due = new Due();

    private static String repeat(String part, int times, String between) {
        StringBuilder text = new StringBuilder();
        for (int k = 0; k < times; k++) {
            text.append(k > 0 ? between : "").append(part);
        }
        return text.toString();
    }

    private void feed() {
        due.sentence(10, "A byte (1 .. 127)");
        KnifeDesk x = new KnifeDesk();
        due.is("feed(0)", x.feed(0), BAD);
        due.is("feed(128)", x.feed(128), BAD);
        due.is("feed(-1)", x.feed(-1), BAD);
        // what would be a letter if its lower bits alone were looked at
        due.is("feed(256 + 'w')", x.feed(256 + 'w'), BAD);
        due.is("feed(least)", x.feed(LEAST), BAD);
        due.is("feed(most)", x.feed(MOST), BAD);
        due.is("none came", x.count(4), 0);
        for (int letter = 1; letter <= 127; letter++) {
            due.is("feed(" + letter + ")", x.feed(letter), letter);
        }
        due.sentence(10, "THE TAPE holds 0 .. 160 bytes");
        // five parts of 16, 16, 16, 16 and 9 numbers
        String full = repeat("w4:1,2,3,4,5,6,7,8,9,0,1,2,3,4,5,6", 4, ";") + ";t3:9,8,7,6,5,4,3,2,1";
        x = Due.desk(16, 5, "");
        for (int k = 0; k < 160; k++) {
            due.is("byte " + (k + 1), x.feed(full.charAt(k)), k + 1);
        }
        due.is("one more", x.feed(';'), KnifeDesk.FULL);
        due.is("and another", x.feed('1'), KnifeDesk.FULL);
        due.is("BAD ahead of FULL", x.feed(128), BAD);
        due.is("bytes", x.count(4), 160);
        due.is("what was refused is not on it", x.worths(), 5);
        due.isText("the first part", Due.row(x, 4, 0), "1234567890123456");
        due.isText("the last part", Due.row(x, 3, 1), "9876543211111111");
        due.sentence(10, "THE TAPE, which is empty behind each call that reads it");
        due.is("bytes", x.count(4), 0);
        due.is("the first byte anew", x.feed('x'), 1);
        due.is("a fault", x.divides(), -100);
        due.is("bytes behind a fault", x.count(4), 0);
        Due.feed(x, "0=1/283-1/271,1/221-1/59");
        due.is("FULL", x.divides(), KnifeDesk.FULL);
        due.is("bytes behind FULL", x.count(4), 0);
    }

    private void worthsIs(int strips, int agents, String text, int answer) {
        KnifeDesk x = Due.desk(strips, agents, "");
        String before = Seen.cake(x);
        due.is("worths() of " + text + " for " + strips + ", " + agents, Due.worths(x, text), answer);
        due.is("the tape behind " + text, x.count(4), 0);
        if (answer < 0) {
            due.isText("nothing is changed by " + text, Seen.cake(x), before);
        }
    }

    private void worths() {
        due.sentence(11, "PARTS, one or more, parted by ;");
        worthsIs(8, 3, "", -100);
        worthsIs(8, 3, ";", -100);
        worthsIs(8, 3, "t0:1", 1);
        worthsIs(8, 3, "t0:1;t0:1", 2);
        worthsIs(8, 3, "t0:1;", -105);
        worthsIs(8, 3, ";t0:1", -100);
        worthsIs(8, 3, "t0:1;;t0:1", -105);
        worthsIs(8, 3, "t0:1,t0:1", -105);
        worthsIs(8, 3, "t0:1 ;t0:1", -104);
        worthsIs(8, 3, "t0:1:t0:1", -104);
        worthsIs(8, 3, repeat("t0:1", 32, ";"), 32);
        due.sentence(11, "w or t");
        worthsIs(8, 3, "w0:1", 1);
        worthsIs(8, 3, "v0:1", -100);
        worthsIs(8, 3, "x0:1", -100);
        worthsIs(8, 3, "s0:1", -100);
        worthsIs(8, 3, "u0:1", -100);
        worthsIs(8, 3, "T0:1", -100);
        worthsIs(8, 3, "wt0:1", -101);
        worthsIs(8, 3, "0:1", -100);
        due.sentence(11, "an AGENT (one figure)");
        worthsIs(8, 3, "w00:1", -102);
        worthsIs(8, 3, "w:1", -101);
        worthsIs(8, 3, "w/:1", -101);
        worthsIs(8, 3, "w::1", -101);
        worthsIs(8, 3, "w-1:1", -101);
        due.sentence(11, "FAULT: of an AGENT that isn't there: where that begins");
        for (int agents = 2; agents <= 5; agents++) {
            worthsIs(8, agents, "w0:1", 1);
            worthsIs(8, agents, "w" + (agents - 1) + ":1", 1);
            worthsIs(8, agents, "w" + agents + ":1", -101);
            worthsIs(8, agents, "w9:1", -101);
            worthsIs(8, agents, "w0:1;t" + agents, -106);
        }
        due.sentence(11, ":");
        worthsIs(8, 3, "w01", -102);
        worthsIs(8, 3, "w0;1", -102);
        worthsIs(8, 3, "w0::1", -103);
        due.sentence(11, "NUMBERS (one figure each), one or more, parted by ,");
        worthsIs(8, 3, "w0:;w1:1", -103);
        worthsIs(8, 3, "w0:0", 1);
        worthsIs(8, 3, "w0:9", 1);
        worthsIs(8, 3, "w0:/", -103);
        worthsIs(8, 3, "w0::", -103);
        worthsIs(8, 3, "w0:10", -104);
        worthsIs(8, 3, "w0:1.0", -104);
        worthsIs(8, 3, "w0:1,,1", -105);
        worthsIs(8, 3, "w0:1,;", -105);
        worthsIs(8, 3, "w0:1,w", -105);
        worthsNumbers();
    }

    private void worthsNumbers() {
        due.sentence(11, "FAULT: a NUMBER for which there is no STRIP: where that begins");
        for (int strips = 2; strips <= 16; strips++) {
            String all = "t1:" + repeat("7", strips, ",");
            worthsIs(strips, 2, all, 1);
            worthsIs(strips, 2, all + ",7", -100 - (3 + 2 * strips));
            worthsIs(strips, 2, all + ",7,", -100 - (3 + 2 * strips));
            worthsIs(strips, 2, "w0:5;" + all + ",7", -100 - (8 + 2 * strips));
            // no such number yet: the text ends too early, or goes on with no number
            worthsIs(strips, 2, all + ",", -100 - (3 + 2 * strips));
            worthsIs(strips, 2, all + ",;", -100 - (3 + 2 * strips));
            worthsIs(strips, 2, all + "7", -100 - (2 + 2 * strips));
            worthsIs(strips, 2, all + ";" + all, 2);
        }
        due.sentence(11, "the length, if it ends too early");
        String text = "w0:1,2;t1:3";
        for (int k = 0; k < text.length(); k++) {
            boolean whole = k == 4 || k == 6;
            worthsIs(8, 3, text.substring(0, k), whole ? 1 : -100 - k);
        }
        // 160 bytes
        worthsIs(8, 3, repeat("t0:1", 32, ";") + ";", -260);
        worthsIs(8, 3, repeat("t0:1", 31, ";") + ",1,1,1", 31);
        due.sentence(11, "w: WORTH and what the AGENT TELLS; t: what it TELLS");
        KnifeDesk x = Due.desk(3, 2, "w1:1,2,3;t1:4,5;w1:6");
        due.isText("worth", Due.row(x, 1, 0), "623");
        due.isText("told", Due.row(x, 1, 1), "653");
        due.sentence(11, "fewer NUMBERS than S leave the others as they were");
        due.is("one part", Due.worths(x, "w1:0,0"), 1);
        due.isText("worth", Due.row(x, 1, 0), "003");
        due.isText("told", Due.row(x, 1, 1), "003");
        due.isText("another agent", Due.row(x, 0, 1), "111");
        due.sentence(11, "With a FAULT nothing is changed");
        due.is("a fault of the last part", Due.worths(x, "w1:9,9,9;t0:9,9,9;w0:9,9,9,9"), -127);
        due.isText("worth", Due.row(x, 1, 0) + Due.row(x, 0, 0), "003111");
        due.isText("told", Due.row(x, 1, 1) + Due.row(x, 0, 1), "003111");
    }

    /** Into a desk with a division of another kind, which stays if this one is refused. */
    private void dividesIs(int strips, int agents, String text, int answer) {
        KnifeDesk x = Due.desk(strips, agents, "");
        x.shares(1, 1);
        String before = Seen.division(x);
        due.is("divides() of " + text + " for " + strips + ", " + agents, Due.divides(x, text), answer);
        due.is("the tape behind " + text, x.count(4), 0);
        if (answer < 0) {
            due.isText("nothing is changed by " + text, Seen.division(x), before);
        } else {
            due.is("no events behind " + text, x.event(-1, 0), 0);
            due.is("count(6) behind " + text, x.count(6), 0);
        }
    }

    private void dividesParts() {
        due.sentence(12, "PARTS, one or more, parted by ;");
        dividesIs(8, 3, "", -100);
        dividesIs(8, 3, ";", -100);
        dividesIs(8, 3, "0=0-1", 1);
        dividesIs(8, 3, "0=0-1;", -106);
        dividesIs(8, 3, "0=0-1;;1=1-2", -106);
        dividesIs(8, 3, "0=0-1:1=1-2", -105);
        dividesIs(8, 5, "4=0-1;3=1-2;2=2-3;1=3-4;0=4-5", 5);
        dividesIs(8, 5, "4=0-1;3=1-2;2=2-3;1=3-4;0=4-5;", -130);
        dividesIs(8, 5, "4=0-1;3=1-2;2=2-3;1=3-4;0=4-5;0=5-6", -130);
        due.sentence(12, "an AGENT (one figure, none twice)");
        dividesIs(8, 3, "=0-1", -100);
        dividesIs(8, 3, "00=0-1", -101);
        dividesIs(8, 3, "/=0-1", -100);
        dividesIs(8, 3, ":=0-1", -100);
        dividesIs(8, 3, "0=0-1;0=1-2", -106);
        dividesIs(8, 3, "0=0-0;0=1-2", -106);
        dividesIs(8, 3, "0=0-1;1=1-2;0=2-3", -112);
        dividesIs(8, 3, "0=0-1;1=1-2;1", -112);
        due.sentence(12, "FAULT: of an AGENT that isn't there: where that begins");
        for (int agents = 2; agents <= 5; agents++) {
            dividesIs(8, agents, (agents - 1) + "=0-1", 1);
            dividesIs(8, agents, agents + "=0-1", -100);
            dividesIs(8, agents, "9=0-1", -100);
            dividesIs(8, agents, "0=0-1;" + agents + "=1-2", -106);
        }
        due.sentence(12, "=, one or two SPANS parted by ,");
        dividesIs(8, 3, "0:0-1", -101);
        dividesIs(8, 3, "0==0-1", -102);
        dividesIs(8, 3, "0=;1=0-1", -102);
        dividesIs(8, 3, "0=0-1,1-2", 1);
        dividesIs(8, 3, "0=0-1,", -106);
        dividesIs(8, 3, "0=0-1,;", -106);
        dividesIs(8, 3, "0=0-1,1-2,2-3", -109);
        dividesIs(8, 3, "0=0-0,0-0,0-0", -109);
        due.sentence(12, "POINT - POINT");
        dividesIs(8, 3, "0=0", -103);
        dividesIs(8, 3, "0=0;1=1-2", -103);
        dividesIs(8, 3, "0=0--1", -104);
        dividesIs(8, 3, "0=0-1-2", -105);
        dividesIs(8, 3, "0=-1-2", -102);
    }

    private void dividesPoints() {
        due.sentence(12, "a NUMBER (one or two figures), or it, /, a NUMBER (one to three figures)");
        dividesIs(8, 3, "0=00-01", 1);
        dividesIs(8, 3, "0=000-01", -104);
        dividesIs(8, 3, "0=0-001", -106);
        dividesIs(8, 3, "0=0/1-1/1", 1);
        dividesIs(8, 3, "0=0/999-1/001", 1);
        dividesIs(8, 3, "0=0/1000-1", -107);
        dividesIs(8, 3, "0=0/0001-1", -104);
        dividesIs(8, 3, "0=0/-1", -104);
        dividesIs(8, 3, "0=0//1-1", -104);
        dividesIs(8, 3, "0=0/1/1-1", -105);
        dividesIs(8, 3, "0=/1-1", -102);
        dividesIs(8, 3, "0=99/13-8", 1);
        dividesIs(8, 3, "0=0/", -104);
        dividesIs(8, 3, "0=0-1/", -106);
        due.sentence(12, "FAULT: of a NUMBER 0 below the line: where that begins");
        dividesIs(8, 3, "0=1/0-2", -104);
        dividesIs(8, 3, "0=1/00-2", -104);
        dividesIs(8, 3, "0=1/000-2", -104);
        dividesIs(8, 3, "0=10/0", -105);
        dividesIs(8, 3, "0=99/0", -105);
        dividesIs(8, 3, "0=1-2/0", -106);
        dividesIs(8, 3, "0=1/01-2", 1);
        dividesIs(8, 3, "0=1/100-2", 1);
        due.sentence(12, "FAULT: of a POINT above S: where that POINT begins");
        for (int strips = 2; strips <= 16; strips++) {
            dividesIs(strips, 2, "0=" + strips + "-" + strips, 1);
            dividesIs(strips, 2, "0=0-" + strips, 1);
            dividesIs(strips, 2, "0=0-" + strips * 6 + "/6", 1);
            dividesIs(strips, 2, "0=0-" + (strips + 1), -104);
            dividesIs(strips, 2, "0=0-" + (strips * 6 + 1) + "/6", -104);
            dividesIs(strips, 2, "0=" + (strips + 1) + "-0", -102);
            dividesIs(strips, 2, "0=" + (strips * 6 + 1) + "/6-0", -102);
            dividesIs(strips, 2, "0=99/1-0", -102);
            dividesIs(strips, 2, "0=0-1,1-" + (strips + 1), -108);
        }
        due.sentence(12, "Of a text a POINT is read to its end, then looked at");
        dividesIs(8, 3, "0=9", -102);
        dividesIs(8, 3, "0=9x", -102);
        dividesIs(8, 3, "0=9/", -104);
        dividesIs(8, 3, "0=9/x", -104);
        dividesIs(8, 3, "0=9/0", -104);
        dividesIs(8, 3, "0=9/1x", -102);
        dividesIs(8, 3, "0=9/2", -105);
        dividesIs(8, 3, "0=9/2x", -105);
        dividesIs(8, 3, "0=17/2/", -102);
        dividesIs(8, 3, "0=99/100-1", 1);
        dividesIs(8, 3, "0=990/100-1", -102);
        dividesIs(8, 3, "0=0-9", -104);
        dividesIs(8, 3, "0=5-4x", -104);
        dividesIs(8, 3, "0=5-4/", -106);
        due.sentence(12, "FAULT: of a second POINT below the first: where that POINT begins");
        dividesIs(8, 3, "0=2-1", -104);
        dividesIs(8, 3, "0=2-2", 1);
        dividesIs(8, 3, "0=1/2-49/99", -106);
        dividesIs(8, 3, "0=1/2-50/99", 1);
        dividesIs(8, 3, "0=1/998-1/999", -108);
        dividesIs(8, 3, "0=1/999-1/998", 1);
        dividesIs(8, 3, "0=0-1,3-2", -108);
    }

    private void dividesOver() {
        due.sentence(12, "FAULT: of a SPAN of which some part that isn't empty is in one told ahead: where the SPAN begins");
        dividesIs(8, 3, "0=2-4;1=4-5;2=1-2", 3);
        dividesIs(8, 3, "0=2-4;1=39/10-5", -108);
        dividesIs(8, 3, "0=2-4;1=0-2/1", 2);
        dividesIs(8, 3, "0=2-4;1=0-99/49", -108);
        dividesIs(8, 3, "0=2-4;1=0-98/49", 2);
        dividesIs(8, 3, "0=2-4;1=2-4", -108);
        dividesIs(8, 3, "0=2-4;1=5/2-3", -108);
        dividesIs(8, 3, "0=2-4;1=0-8", -108);
        dividesIs(8, 3, "0=2-4;1=2-3", -108);
        dividesIs(8, 3, "0=2-4;1=3-4", -108);
        dividesIs(8, 3, "0=2-4;1=0-1;2=4-5,1-2", 3);
        dividesIs(8, 3, "0=2-4;1=0-1;2=4-5,1-3", -118);
        dividesIs(8, 3, "0=2-4,6-8;1=0-1,5-7", -116);
        dividesIs(8, 3, "0=0-1,1-2;1=2-3,3-4;2=4-5,7/2-4", -126);
        dividesIs(16, 5, "4=0-1,1-2;3=2-3,3-4;2=4-5,5-6;1=6-7,7-8;0=8-9,0-1/9", -146);
        dividesIs(16, 5, "4=0-1,1-2;3=2-3,3-4;2=4-5,5-6;1=6-7,7-8;0=8-9,9-9", 5);
        due.sentence(12, "a SPAN may not lie over one told ahead, also of the same AGENT");
        dividesIs(8, 3, "0=2-4,3-5", -106);
        dividesIs(8, 3, "0=2-4,2-4", -106);
        dividesIs(8, 3, "0=2-4,4-5", 1);
        dividesIs(8, 3, "0=2-4,0-2", 1);
        due.sentence(12, "it may be empty");
        dividesIs(8, 3, "0=2-4;1=3-3,2-2;2=4-4,3-3", 3);
        dividesIs(8, 3, "0=3-3;1=2-4", 2);
        dividesIs(8, 3, "0=3-3,3-3;1=3-3", 2);
        dividesIs(8, 3, "0=0-0;1=8-8;2=0-8", 3);
        due.sentence(12, "FAULT: the first of them that comes");
        // the point above S comes ahead of the span that lies over another one, whose end is not read yet
        dividesIs(8, 3, "0=2-4;1=3-9", -110);
        dividesIs(8, 3, "0=2-4;1=3-2", -110);
        dividesIs(8, 3, "0=2-4;1=3-5x", -108);
        dividesIs(8, 3, "0=2-4;1=3-", -110);
        dividesIs(8, 3, "0=2-4;0=9", -106);
        due.sentence(12, "the length, if it ends too early");
        String text = "0=1-12/10,2-3;1=3-4";
        for (int k = 0; k < text.length(); k++) {
            // those that are whole, and that of which the second point is below the first, or 0 below the line
            int answer = -100 - k;
            answer = k == 5 || k == 8 || k == 9 || k == 13 ? 1 : answer;
            String part = text.substring(0, k);
            answer = part.endsWith("12") ? -104 : part.endsWith("12/1") ? -104 : answer;
            dividesIs(8, 3, part, answer);
        }
    }

    private void dividesUnit() {
        due.sentence(12, "FULL: THE UNIT of all its POINTS would be above 1000000000");
        // no number that is made of 1 .. 999 lies between 999999990 and 1000000027
        KnifeDesk x = Due.desk(8, 3, "");
        due.is("the last one taken", Due.divides(x, "0=1/990-1/137,1/101-1/73"), 1);
        due.is("its unit", x.count(3), 999999990);
        due.is("gets", x.gets(0, 0, 0, 0), 10086809);
        due.is("gets, below", x.gets(0, 0, 0, 1), 999999990);
        dividesIs(8, 3, "0=1/283-1/271,1/221-1/59", KnifeDesk.FULL);
        dividesIs(8, 3, "0=1/283-1/271,1/221-1/59;1=1-2", KnifeDesk.FULL);
        dividesIs(8, 3, "1=1-2;0=1/283-1/271;2=1/221-1/59", KnifeDesk.FULL);
        due.sentence(12, "THE UNIT counts all POINTS told");
        // empty spans, and points that some other one is a multiple of
        dividesIs(8, 3, "0=1/283-1/283,1/271-1/271;1=1/221-1/221,1/59-1/59", KnifeDesk.FULL);
        due.is("empty ones", Due.divides(x, "0=1/990-1/990,1/137-1/137;1=1/101-1/101,1/73-1/73"), 2);
        due.is("their unit", x.count(3), 999999990);
        due.is("in lowest terms", Due.divides(x, "0=0/997-6/9;1=8/8-30/20"), 2);
        due.is("their unit", x.count(3), 6);
        due.is("whole ones", Due.divides(x, "0=0/7-7/7;1=8/2-35/7"), 2);
        due.is("their unit", x.count(3), 1);
        due.is("once full, full", Due.divides(x, "0=1/997-1/991,1/983-1/977;1=1-2,3-4;2=1/2-1/2,1/3-1/3"), KnifeDesk.FULL);
        due.sentence(12, "FULL is told behind all FAULTS");
        dividesIs(8, 3, "0=1/283-1/271,1/221-1/59;", -125);
        dividesIs(8, 3, "0=1/283-1/271,1/221-1/59;0", -125);
        dividesIs(8, 3, "0=1/283-1/271,1/221-1/59;1=2-9", -129);
        dividesIs(8, 3, "0=1/283-1/271,1/221-1/59;1=1/60-1", -127);
        dividesIs(8, 3, "0=1/283-1/271,1/221-1/59x", -124);
        due.sentence(12, "AGENTS not told have no SPANS");
        x = Due.desk(8, 3, "");
        x.shares(1, 0);
        due.is("one part", Due.divides(x, "1=0-1,2-3"), 1);
        for (int i = 0; i < 3; i++) {
            due.is("spans of " + i, x.share(i, -1, 0), i == 1 ? 2 : 0);
            due.is("the first of " + i, x.share(i, 0, 2), i == 1 ? 1 : NO);
            due.isText("gets of " + i, Due.gets(x, 0, i, 0), i == 1 ? "2" : "0");
        }
        due.sentence(12, "how many PARTS");
        // the longest there is: 149 bytes
        x = Due.desk(16, 5, "");
        StringBuilder longest = new StringBuilder();
        for (int i = 0; i < 5; i++) {
            longest.append(i > 0 ? ";" : "").append(i).append("=");
            for (int k = 0; k < 2; k++) {
                int left = 20 * i + 10 * k;
                longest.append(k > 0 ? "," : "").append(left < 10 ? "0" : "").append(left).append("/100-").append(left + 9).append("/100");
            }
        }
        due.is("parts of " + longest.length() + " bytes", Due.divides(x, longest.toString().replace("-9/", "-09/")), 5);
        due.is("unit", x.count(3), 100);
        due.is("the tape", x.count(4), 0);
    }

    private void prints() {
        due.sentence(13, "STATE: there is no DIVISION");
        KnifeDesk x = Due.desk(2, 2, "w0:3,5;w1:1,9");
        due.is("prints()", x.prints(), STATE);
        due.sentence(13, "of each EVENT m, t, p or g (TAKES), the AGENT, with m and t a blank and the POINT, with g a blank, where the SPAN begins, -, where it ends; a semicolon");
        x.shares(0, 0);
        due.is("how many bytes", x.prints(), 25);
        due.isText("bytes", Seen.paper(x), "m0 6/5;g1 6/5-2;g0 0-6/5;");
        x.shares(2, 1);
        due.isText("a trim", Due.log(x), "m1 13/9;t0 6/5;g0 0-6/5;g1 6/5-2;");
        x.shares(2, 0);
        due.isText("a pass", Due.log(x), "m0 6/5;p1;g0 0-6/5;g1 6/5-2;");
        due.sentence(13, "THE PAPER becomes THE LOG");
        x.shares(1, 0);
        due.is("a longer one", x.prints(), 33);
        due.is("its last byte", x.paper(32), ';');
        x.shares(0, 0);
        due.is("a shorter one", x.prints(), 25);
        due.is("leaves nothing of the longer one", x.paper(25), KnifeDesk.NOT);
        due.sentence(13, "THE LOG is empty");
        Due.divides(x, "0=0-1;1=1-2");
        due.is("the paper stays until then", x.paper(-1), 25);
        due.is("prints()", x.prints(), 0);
        due.is("how many", x.paper(-1), 0);
        due.is("count(5)", x.count(5), 0);
        due.is("byte 0", x.paper(0), KnifeDesk.NOT);
        due.sentence(13, "STATE changes nothing");
        x.shares(0, 0);
        x.prints();
        x.begin(2, 2);
        due.is("prints()", x.prints(), STATE);
        due.isText("the paper", Seen.paper(x), "m0 6/5;g1 6/5-2;g0 0-6/5;");
        due.sentence(13, "POINTS: above, and, if it isn't 1, / and below the line");
        // strips 10 .. 16, and thirds of them
        x = Due.desk(16, 2, "w0:0,0,0,0,0,0,0,0,0,0,1,0,0,0,0,1;w1:0,0,0,0,0,0,0,0,0,0,0,0,0,0,0,1");
        x.shares(0, 1);
        due.isText("two figures", Due.log(x), "m1 31/2;g0 0-31/2;g1 31/2-16;");
        x.shares(0, 0);
        due.isText("whole", Due.log(x), "m0 11;g1 11-16;g0 0-11;");
        printsLong();
    }

    /** The longest logs, with points of many figures, as the second reckoning prints them. */
    private void printsLong() {
        due.sentence(13, "How many bytes");
        int[][] rows = {{9, 7, 5, 3, 1, 9, 7, 5}, {7, 9, 4, 8, 9, 5, 7, 8}, {5, 8, 7, 9, 2, 7, 9, 5}, {8, 5, 9, 7, 7, 9, 8, 9}, {7, 7, 8, 5, 9, 8, 5, 7}};
        for (int way = 1; way <= 3; way++) {
            for (int from = 0; from < 5; from++) {
                KnifeDesk x = Due.desk(8, 5, "");
                Oracle o = new Oracle();
                o.begin(8, 5);
                for (int i = 0; i < 5; i++) {
                    for (int s = 0; s < 8; s++) {
                        x.worth(i, s, rows[i][s]);
                        o.worth(i, s, rows[i][s]);
                    }
                }
                String name = "way " + way + " from " + from;
                due.is("events of " + name, x.shares(way, from), o.shares(way, from));
                due.is("bytes of " + name, x.prints(), o.prints());
                due.is("unit of " + name, x.count(3), o.count(3));
                // an object is used for at most 512 calls
                int looked = Math.min(o.paper().length() + 1, 450);
                for (int i = 0; i < looked; i++) {
                    due.is("byte " + i + " of " + name, x.paper(i), o.paper(i));
                }
            }
        }
    }

    private void paper() {
        due.sentence(14, "i -1: how many");
        KnifeDesk x = Due.desk(2, 2, "w0:3,5;w1:1,9");
        due.is("of nothing", x.paper(-1), 0);
        x.shares(0, 0);
        x.prints();
        due.is("of a log", x.paper(-1), 25);
        due.sentence(14, "Byte i of THE PAPER");
        due.is("the first", x.paper(0), 'm');
        due.is("the last", x.paper(24), ';');
        due.sentence(14, "NOT: it has not as many");
        due.is("behind the last", x.paper(25), KnifeDesk.NOT);
        due.is("far behind it", x.paper(MOST), KnifeDesk.NOT);
        due.sentence(14, "BAD: below -1");
        due.is("paper(-2)", x.paper(-2), BAD);
        due.is("paper(least)", x.paper(LEAST), BAD);
        due.is("of nothing too", new KnifeDesk().paper(-2), BAD);
    }

    public static void main(String[] args) {
        TextsEdgesTest test = new TextsEdgesTest();
        test.feed();
        test.worths();
        test.dividesParts();
        test.dividesPoints();
        test.dividesOver();
        test.dividesUnit();
        test.prints();
        test.paper();
        test.due.end("TextsEdgesTest");
    }
}
