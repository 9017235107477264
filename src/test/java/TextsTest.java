/** Promises 10 to 14: the tape, texts of worths and of divisions, what is printed. */
public final class TextsTest {
    private static final int BAD = KnifeDesk.BAD;
    private final Due due = new Due();

    private void feed() {
        due.promise(10);
        KnifeDesk x = new KnifeDesk();
        int[] bad = {0, 128, -1, Integer.MIN_VALUE, Integer.MAX_VALUE};
        for (int letter : bad) {
            due.is("feed(" + letter + ")", x.feed(letter), BAD);
        }
        due.is("nothing came", x.count(4), 0);
        due.is("feed(1)", x.feed(1), 1);
        due.is("feed(127)", x.feed(127), 2);
        for (int k = 3; k <= 160; k++) {
            due.is("feed, byte " + k, x.feed('w'), k);
        }
        due.is("feed of a full tape", x.feed('w'), KnifeDesk.FULL);
        due.is("bad ahead of full", x.feed(0), BAD);
        due.is("bytes", x.count(4), 160);
        due.is("the first byte comes first", x.worths(), -100);
        due.is("empty behind the call", x.feed('w'), 1);
    }

    private void worthsFault(String text, int fault) {
        KnifeDesk x = new KnifeDesk();
        due.is("worths() of " + text, Due.worths(x, text), -100 - fault);
        due.is("tape behind " + text, x.count(4), 0);
        for (int i = 0; i < 3; i++) {
            due.isText("row behind " + text, Due.row(x, i, 0) + Due.row(x, i, 1), "1111111111111111");
        }
    }

    private void worths() {
        due.promise(11);
        KnifeDesk x = new KnifeDesk();
        due.is("one part", Due.worths(x, "w1:9"), 1);
        due.isText("worth", Due.row(x, 1, 0), "91111111");
        due.isText("told", Due.row(x, 1, 1), "91111111");
        due.is("told alone", Due.worths(x, "t2:0,1,2,3,4,5,6,7"), 1);
        due.isText("worth stays", Due.row(x, 2, 0), "11111111");
        due.isText("told", Due.row(x, 2, 1), "01234567");
        due.is("one agent in three parts, the last says last", Due.worths(x, "w0:1,2;t0:5;w0:3"), 3);
        due.isText("worth", Due.row(x, 0, 0), "32111111");
        due.isText("told", Due.row(x, 0, 1), "32111111");
        due.is("tape", x.count(4), 0);
        worthsFault("", 0);
        worthsFault("w", 1);
        worthsFault("x0:1", 0);
        worthsFault("W0:1", 0);
        worthsFault("w3:1", 1);
        worthsFault("w9:1", 1);
        worthsFault("wx:1", 1);
        worthsFault("w0", 2);
        worthsFault("w0=1", 2);
        worthsFault("w0:", 3);
        worthsFault("w0:,", 3);
        worthsFault("w0:12", 4);
        worthsFault("w0:5,", 5);
        worthsFault("w0:5,,", 5);
        worthsFault("w0:5;", 5);
        worthsFault("w0:5;;", 5);
        worthsFault("w0:5;w1", 7);
        worthsFault("w0:5;w1:6;t4:1", 11);
        worthsFault("w0:5 ", 4);
        worthsFault("w0:-5", 3);
        worthsFault("t0:1,2,3,4,5,6,7,8,9", 19);
        worthsFault("t0:1,2,3,4,5,6,7,8,", 19);
        worthsFault("t0:1,2,3,4,5,6,7,8,x", 19);
        worthsFault("t0:1,2,3,4,5,6,7,8;w", 20);
        x = Due.desk(2, 2, "");
        due.is("fewer strips", Due.worths(x, "w1:1,2,3"), -107);
        due.is("fewer agents", Due.worths(x, "w2:1"), -101);
        x = Due.desk(16, 5, "");
        StringBuilder full = new StringBuilder("w4:9,9,9,9,9,9,9,9,9,9,9,9,9,9,9,9");
        for (int k = 0; k < 25; k++) {
            full.append(";t4:1");
        }
        due.is("159 bytes", Due.worths(x, full.toString()), 26);
        due.isText("told", Due.row(x, 4, 1), "1999999999999999");
        x = new KnifeDesk();
        Due.feed(x, full.toString() + "123");
        due.is("160 bytes at most", x.count(4), 160);
    }

    private void dividesFault(String text, int fault) {
        KnifeDesk x = Due.desk(16, 3, "");
        x.shares(1, 0);
        String before = Due.shares(x);
        due.is("divides() of " + text, Due.divides(x, text), -100 - fault);
        due.is("tape behind " + text, x.count(4), 0);
        due.isText("shares behind " + text, Due.shares(x), before);
        due.is("events behind " + text, x.count(6), 8);
        due.is("unit behind " + text, x.count(3), 3);
    }

    private void divides(String text, int parts, String shares, int unit) {
        KnifeDesk x = Due.desk(16, 3, "");
        x.shares(1, 0);
        due.is("divides() of " + text, Due.divides(x, text), parts);
        due.isText("shares of " + text, Due.shares(x), shares);
        due.is("unit of " + text, x.count(3), unit);
        due.is("events of " + text, x.count(6), 0);
        due.is("division of " + text, x.count(2), 1);
        due.is("tape behind " + text, x.count(4), 0);
    }

    private void dividesTold() {
        due.promise(12);
        divides("0=0-1", 1, "0=0-1", 1);
        divides("2=0-5/2;1=5/2-4,6-8;0=9/2-6", 3, "0=9/2-6;1=5/2-4,6-8;2=0-5/2", 2);
        divides("1=12/8-16/010", 1, "1=3/2-8/5", 10);
        divides("1=00-07/007", 1, "1=0-1", 1);
        divides("1=16-16/1", 1, "1=16-16", 1);
        divides("0=2-4;1=3-3;2=2-2,4-4", 3, "0=2-4;1=3-3;2=2-2,4-4", 1);
        divides("0=3-3;1=2-4", 2, "0=3-3;1=2-4", 1);
        divides("0=2-3,1-2;1=3-4,0-1", 2, "0=2-3,1-2;1=3-4,0-1", 1);
        // an empty span's points count for the unit too; 999 by 998 by 997
        divides("0=1/999-1/999,1/998-1/998;1=1/997-1/997", 2, "0=1/999-1/999,1/998-1/998;1=1/997-1/997", 994010994);
        KnifeDesk x = Due.desk(16, 3, "");
        x.shares(1, 0);
        due.is("a unit above 1000000000", Due.divides(x, "0=1/999-1/999,1/998-1/998;1=1/997-1/997,1/5-1/5"), KnifeDesk.FULL);
        due.is("tape", x.count(4), 0);
        due.is("the division stays", x.count(3), 3);
        due.is("the log stays", x.count(6), 8);
        due.is("far above", Due.divides(x, "0=1/999-1/998,1/991-1/983;1=1/977-1/971,1/967-1/953;2=1/947-1/941,1/937-1/929"), KnifeDesk.FULL);
        due.is("faults ahead of it", Due.divides(x, "0=1/999-1/999,1/998-1/998;1=1/997-1/997,1/5-1/5;"), -148);
        due.is("points in lowest terms", Due.divides(x, "0=99/990-99/990,98/980-98/980;1=97/970-97/970,1/5-1/5"), 2);
        due.is("unit", x.count(3), 10);
        dividesFault("", 0);
        dividesFault("x", 0);
        dividesFault("3=0-1", 0);
        dividesFault("0", 1);
        dividesFault("0:", 1);
        dividesFault("00=0-1", 1);
        dividesFault("0=", 2);
        dividesFault("0=-", 2);
        dividesFault("0=1", 3);
        dividesFault("0=1,", 3);
        dividesFault("0=1-", 4);
        dividesFault("0=1-x", 4);
        dividesFault("0=1--", 4);
        dividesFault("0=1-2-", 5);
        dividesFault("0=123-4", 4);
        dividesFault("0=1-124", 6);
        dividesFault("0=1/-", 4);
        dividesFault("0=1/", 4);
        dividesFault("0=1/1234", 7);
        dividesFault("0=1/2/3", 5);
        dividesFault("0=1/0-2", 4);
        dividesFault("0=99/0", 5);
        dividesFault("0=1/000", 4);
        dividesFault("0=1-2/00x", 6);
        dividesFault("0=17", 2);
        dividesFault("0=17-18", 2);
        dividesFault("0=99/6-17", 2);
        dividesFault("0=175", 2);
        dividesFault("0=1-17", 4);
        dividesFault("0=1-33/2", 4);
        dividesFault("0=2-1", 4);
        dividesFault("0=2-3/2x", 4);
        dividesFault("0=1-2;", 6);
        dividesFault("0=1-2;0=3-4", 6);
        dividesFault("0=1-2,", 6);
        dividesFault("0=1-2,3-4,5-6", 9);
        dividesFault("0=1-2;1=3-4;3=", 12);
        dividesFault("0=1-2;;", 6);
        // parts that are in a span told ahead, another's or its own
        dividesFault("0=1-3;1=2-4", 8);
        dividesFault("0=1-3,2-4", 6);
        dividesFault("0=1-4;1=5-6,2-3", 12);
        dividesFault("0=2-3;1=1-4x", 8);
        dividesFault("0=1-2;1=3/2-3/2,7/4-9/4", 16);
        dividesFault("0=1-3;1=2-17", 10);
        KnifeDesk y = new KnifeDesk();
        due.is("above 8 of 8", Due.divides(y, "0=0-9"), -104);
        due.is("no division yet", y.count(2), 0);
        due.is("divides() of nothing", y.divides(), -100);
    }

    private void prints() {
        due.promise(13);
        KnifeDesk x = Due.desk(3, 3, "w0:1,1,1;w1:6,2,0;w2:1,1,4");
        due.is("no division", x.prints(), KnifeDesk.STATE);
        x.shares(4, 0);
        due.isText("marks, a trim, takes", Due.log(x),
            "m0 1;m0 2;t1 1/3;g2 2-3;g1 0-1/3;g0 1-2;m2 5/9;m2 7/9;g1 1/3-5/9;g0 5/9-7/9;g2 7/9-1;");
        due.is("how many", x.prints(), 85);
        x.begin(3, 3);
        due.is("none again", x.prints(), KnifeDesk.STATE);
        due.is("the paper stays", x.paper(-1), 85);
        x.shares(2, 0);
        due.isText("passes", Due.log(x), "m0 1;p1;p2;g0 0-1;m1 2;p2;g1 1-2;g2 2-3;");
        Due.divides(x, "0=0-1");
        due.is("a told division's log", x.prints(), 0);
        due.is("an empty paper", x.paper(-1), 0);
        // two figures above the line, three below
        x = Due.desk(16, 5, "w0:0,0,0,0,0,0,0,0,0,0,0,0,0,0,7,1;w1:9,7;w2:0,0,0,0,0,0,0,0,0,0,0,0,0,0,0,9");
        x.shares(1, 3);
        due.isText("long points", Due.log(x), "m3 16/5;m4 16/5;m0 498/35;m1 2/3;m2 76/5;g1 0-2/3;m3 58/15;m4 58/15;"
            + "m0 498/35;m2 76/5;g3 2/3-58/15;m4 106/15;m0 498/35;m2 76/5;g4 58/15-106/15;m0 498/35;m2 76/5;"
            + "g0 106/15-498/35;g2 498/35-16;");
    }

    private void paper() {
        due.promise(14);
        KnifeDesk x = Due.desk(2, 2, "w0:3,5;w1:1,9");
        due.is("nothing at first", x.paper(-1), 0);
        due.is("no byte", x.paper(0), KnifeDesk.NOT);
        x.shares(0, 0);
        due.is("nothing before it is printed", x.paper(-1), 0);
        x.prints();
        String log = "m0 6/5;g1 6/5-2;g0 0-6/5;";
        due.is("how many", x.paper(-1), log.length());
        for (int i = 0; i < log.length(); i++) {
            due.is("paper(" + i + ")", x.paper(i), log.charAt(i));
        }
        due.is("behind the last", x.paper(log.length()), KnifeDesk.NOT);
        due.is("far behind", x.paper(Integer.MAX_VALUE), KnifeDesk.NOT);
        due.is("paper(-2)", x.paper(-2), BAD);
        due.is("paper(least)", x.paper(Integer.MIN_VALUE), BAD);
        x.shares(0, 1);
        due.is("stays until it is printed anew", x.paper(1), '0');
    }

    public static void main(String[] args) {
        TextsTest test = new TextsTest();
        test.feed();
        test.worths();
        test.dividesTold();
        test.prints();
        test.paper();
        test.due.end("TextsTest");
    }
}
