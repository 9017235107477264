/** Promises 18 to 23: who gets what, envy, fairness, exchange, cuts, what was trimmed off. */
public final class DivisionTest {
    private static final int BAD = KnifeDesk.BAD, STATE = KnifeDesk.STATE;
    private static final int LEAST = Integer.MIN_VALUE, MOST = Integer.MAX_VALUE;
    private static final long NO = KnifeDesk.NO;
    private final Due due = new Due();

    private static KnifeDesk trimmed() {
        KnifeDesk x = Due.desk(3, 3, "w0:1,1,1;w1:3,0,0;w2:0,0,3");
        x.shares(2, 0); // 0: 1/3-5/3, 1: 0-1/3, 2: 5/3-3; trimmed off 1/3-1
        return x;
    }

    private void gets() {
        due.promise(18);
        KnifeDesk x = trimmed();
        String[][] gets = {{"4/3", "1/3", "4/3"}, {"2", "1", "0"}, {"0", "0", "3"}};
        for (int i = 0; i < 3; i++) {
            for (int j = 0; j < 3; j++) {
                due.isText("gets " + i + " " + j, Due.gets(x, i, j, 0), gets[i][j]);
                due.isText("told gets " + i + " " + j, Due.gets(x, i, j, 1), gets[i][j]);
            }
        }
        x.tells(0, 0, 9);
        x.worth(1, 1, 2);
        due.isText("worth stays", Due.gets(x, 0, 0, 0), "4/3");
        due.isText("as it is told now", Due.gets(x, 0, 0, 1), "20/3");
        due.isText("as worth is now", Due.gets(x, 1, 0, 0), "10/3");
        Due.divides(x, "1=0-1/2,5/2-3");
        due.isText("two spans", Due.gets(x, 2, 1, 0), "3/2");
        due.isText("no spans", Due.gets(x, 2, 0, 0), "0");
        int[][] bad = {{-1, 0, 0, 0}, {3, 0, 0, 0}, {0, -1, 0, 0}, {0, 3, 0, 0}, {0, 0, 2, 0}, {0, 0, -1, 0}, {0, 0, 0, 2}, {0, 0, 0, -1},
            {MOST, LEAST, 0, 0}, {0, 0, LEAST, MOST}};
        for (int[] b : bad) {
            due.is("gets(" + b[0] + ", " + b[1] + ", " + b[2] + ", " + b[3] + ")", x.gets(b[0], b[1], b[2], b[3]), NO);
        }
        due.is("no division", new KnifeDesk().gets(0, 0, 0, 0), NO);
    }

    private void envies() {
        due.promise(19);
        KnifeDesk x = trimmed();
        due.is("envies(0, 0)", x.envies(0, 0), 0);
        due.is("envies(1, 0)", x.envies(1, 0), 1);
        due.is("envies(2, 0)", x.envies(2, 0), 0);
        x.tells(2, 0, 9);
        due.is("by worths", x.envies(2, 0), 0);
        due.is("by what it tells", x.envies(2, 1), 1);
        x.tells(2, 0, 4);
        due.is("by what it tells, none more", x.envies(2, 1), 0);
        Due.divides(x, "1=0-3");
        due.is("all of it", x.envies(0, 0), 2);
        due.is("none of it", x.envies(1, 0), 0);
        x = Due.desk(5, 5, "");
        Due.divides(x, "0=0-1;1=1-2;3=2-4;4=4-5");
        due.is("of five, one without", x.envies(2, 0), 1 + 2 + 8 + 16);
        due.is("like ones are not envied", x.envies(0, 0), 8);
        due.is("bad agent", x.envies(5, 0), BAD);
        due.is("bad agent", x.envies(-1, 0), BAD);
        due.is("bad how", x.envies(0, 2), BAD);
        due.is("bad how", x.envies(0, -1), BAD);
        x = new KnifeDesk();
        due.is("no division", x.envies(0, 0), STATE);
        due.is("bad ahead of state", x.envies(3, 0), BAD);
    }

    private void fair() {
        due.promise(20);
        KnifeDesk x = trimmed();
        due.is("fair(0)", x.fair(0), 7);
        x.worth(0, 2, 2);
        due.is("just a third still", x.fair(0), 7);
        x.worth(0, 2, 3);
        due.is("less than a third", x.fair(0), 6);
        x.tells(0, 2, 1);
        x.tells(1, 2, 1);
        due.is("by worths", x.fair(0), 6);
        due.is("by what they tell", x.fair(1), 5);
        x.worth(1, 0, 0);
        x.tells(1, 2, 0);
        due.is("a third of nothing", x.fair(1), 7);
        x = Due.desk(5, 5, "");
        Due.divides(x, "0=0-1;1=1-2;3=2-4");
        due.is("of five", x.fair(0), 1 + 2 + 8);
        due.is("fair(2)", x.fair(2), BAD);
        due.is("fair(-1)", x.fair(-1), BAD);
        x = new KnifeDesk();
        due.is("no division", x.fair(1), STATE);
        due.is("bad ahead of state", x.fair(MOST), BAD);
    }

    private void exchange() {
        due.promise(21);
        KnifeDesk x = Due.desk(3, 3, "w0:0,5,0;w1:5,0,0");
        due.is("no division", x.exchange(), STATE);
        Due.divides(x, "0=0-1;1=1-2;2=2-3");
        due.is("two change", x.exchange(), 102);
        Due.worths(x, "t0:9,0,0;t1:0,9,0");
        due.is("by worths alone", x.exchange(), 102);
        Due.worths(x, "w0:0,0,9;w1:9,0,0;w2:0,9,0");
        due.is("round", x.exchange(), 201);
        Due.worths(x, "w0:1,1,1;w1:1,1,1;w2:1,1,1");
        due.is("all like: as it is, with 0 ahead", x.exchange(), 12);
        Due.worths(x, "w0:1,1,1;w1:0,0,5;w2:0,0,5");
        due.is("of like ones as it is", x.exchange(), 12);
        Due.worths(x, "w0:1,1,1;w1:0,0,5;w2:1,1,1");
        due.is("of like ones the least for the first", x.exchange(), 21);
        Due.divides(x, "0=0-1");
        Due.worths(x, "w0:0,0,0;w1:0,0,0;w2:1,0,0");
        due.is("shares without spans", x.exchange(), 120);
        x = Due.desk(5, 5, "w0:0,0,0,0,1;w1:0,0,0,2,0;w2:0,0,3,0,0;w3:0,4,0,0,0;w4:5,0,0,0,0");
        Due.divides(x, "0=0-1;1=1-2;2=2-3;3=3-4;4=4-5");
        due.is("five", x.exchange(), 43210);
        x = Due.desk(4, 2, "");
        Due.divides(x, "1=0-4");
        due.is("two", x.exchange(), 1);
        // most together, not most for one: 0 would have 9, 1 has 8 of it and 0 for the other
        x = Due.desk(2, 2, "w0:9,2;w1:8,0");
        Due.divides(x, "0=0-1;1=1-2");
        due.is("together", x.exchange(), 10);
    }

    private void cutsAre(String text, int cuts) {
        KnifeDesk x = Due.desk(8, 3, "");
        Due.divides(x, text);
        due.is("cuts() of " + text, x.cuts(), cuts);
    }

    private void cuts() {
        due.promise(22);
        cutsAre("0=0-8", 0);
        cutsAre("0=0-1", 1);
        cutsAre("0=0-1;1=1-8", 1);
        cutsAre("0=0-1;1=2-8", 2);
        cutsAre("0=0-1,2-2;1=1-3", 2);
        cutsAre("0=4-4,5-5;1=0-0;2=8-8", 0);
        cutsAre("0=1/2-1,3/2-2;1=5/2-3,7/2-4;2=9/2-5,11/2-6", 12);
        cutsAre("0=1/2-2/3;1=2/3-9/12;2=3/4-8", 3);
        KnifeDesk x = Due.desk(3, 3, "w1:0,5,0");
        due.is("no division", x.cuts(), STATE);
        x.shares(4, 0); // 0: 2-3, 4/3-5/3; 1: 1-1, 1-4/3; 2: 0-1, 5/3-2
        due.is("of a way", x.cuts(), 4);
    }

    private void off() {
        due.promise(23);
        KnifeDesk x = trimmed();
        String[] off = {"2/3", "2", "0"};
        for (int i = 0; i < 3; i++) {
            due.isText("off " + i, Due.off(x, i, 0), off[i]);
            due.isText("left " + i, Due.off(x, i, 1), "0");
        }
        x.tells(0, 0, 9);
        due.isText("not by what it tells", Due.off(x, 0, 0), "2/3");
        // 2 .. 3 is trimmed off twice: by 1 with 1/3 .. 3, then, since it came back into the rest, by 2 with 2 .. 14/3
        x = Due.desk(9, 3, "w1:9,0,0,0,0,0,0,0,0;w2:0,6,6,0,0,0,0,0,0");
        x.shares(2, 0);
        due.isText("two trims", Due.log(x), "m0 3;t1 1/3;p2;g1 0-1/3;m0 14/3;t2 2;g2 1/3-2;g0 2-9;");
        due.isText("off: both spans' worths together", Due.off(x, 0, 0), "16/3");
        due.isText("off", Due.off(x, 1, 0), "6");
        due.isText("off", Due.off(x, 2, 0), "18");
        due.isText("left", Due.off(x, 2, 1), "0");
        x = Due.desk(9, 3, "w1:9,9,9,0,0,0,0,9,9");
        // told: nothing is trimmed, some may be left
        Due.divides(x, "0=1/2-1;2=5-9,2-3");
        due.isText("off of a told division", Due.off(x, 1, 0), "0");
        due.is("0 by 1", x.off(1, 0, 1), 1);
        due.isText("left", Due.off(x, 1, 1), "27/2");
        due.isText("left", Due.off(x, 0, 1), "7/2");
        x.tells(0, 0, 9);
        due.isText("left is by worths", Due.off(x, 0, 1), "7/2");
        int[][] bad = {{-1, 0, 0}, {3, 0, 0}, {0, -1, 0}, {0, 2, 0}, {0, 0, -1}, {0, 0, 2}, {LEAST, MOST, LEAST}};
        for (int[] b : bad) {
            due.is("off(" + b[0] + ", " + b[1] + ", " + b[2] + ")", x.off(b[0], b[1], b[2]), NO);
        }
        due.is("no division", new KnifeDesk().off(0, 0, 0), NO);
        due.is("no division", new KnifeDesk().off(0, 1, 1), NO);
    }

    public static void main(String[] args) {
        DivisionTest test = new DivisionTest();
        test.gets();
        test.envies();
        test.fair();
        test.exchange();
        test.cuts();
        test.off();
        test.due.end("DivisionTest");
    }
}
