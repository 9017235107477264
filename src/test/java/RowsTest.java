/** Promises 27 to 34: lists, the image, what is counted. */
public final class RowsTest {
    private static final int LEAST = Integer.MIN_VALUE, MOST = Integer.MAX_VALUE, BAD = KnifeDesk.BAD, STATE = KnifeDesk.STATE;
    private static final long NO = KnifeDesk.NO;
    private final Due due = new Due();

    private void list() {
        due.promise(27);
        KnifeDesk x = new KnifeDesk();
        for (int l = 0; l < 4; l++) {
            due.is("list(" + l + ", 20)", x.list(l, 20), 1);
            due.is("all 0", x.get(l, 19), 0);
            due.is("no more", x.get(l, 20), NO);
        }
        x.set(1, 2, 5);
        due.is("list(1, 3)", x.list(1, 3), 1);
        due.is("all 0 anew", x.get(1, 2), 0);
        due.is("no fourth", x.get(1, 3), NO);
        due.is("a row of none", x.list(1, 0), 1);
        due.is("it is a row", x.set(1, 0, 1), Due.BEYOND);
        due.is("list(0, -1)", x.list(0, -1), Due.BELOW);
        due.is("list(0, least)", x.list(0, LEAST), Due.BELOW);
        due.is("list(0, 21)", x.list(0, 21), BAD);
        due.is("list(0, most)", x.list(0, MOST), BAD);
        due.is("list(4, 1)", x.list(4, 1), BAD);
        due.is("list(-1, 1)", x.list(-1, 1), BAD);
        due.is("bad ahead of below", x.list(4, -1), BAD);
        due.is("what was there stays", x.get(0, 19), 0);
    }

    private void set() {
        due.promise(28);
        KnifeDesk x = new KnifeDesk();
        due.is("nothing there", x.set(3, 0, 1), Due.NOTHING);
        due.is("nothing ahead of beyond", x.set(3, -1, 1), Due.NOTHING);
        due.is("bad ahead of nothing", x.set(4, 0, 1), BAD);
        due.is("bad", x.set(-1, 0, 1), BAD);
        x.list(3, 4);
        due.is("set(3, 0, least)", x.set(3, 0, LEAST), 1);
        due.is("set(3, 3, most)", x.set(3, 3, MOST), 1);
        due.is("get(3, 0)", x.get(3, 0), LEAST);
        due.is("get(3, 3)", x.get(3, 3), MOST);
        due.is("others stay", x.get(3, 1), 0);
        due.is("set(3, 4, 1)", x.set(3, 4, 1), Due.BEYOND);
        due.is("set(3, -1, 1)", x.set(3, -1, 1), Due.BEYOND);
        due.is("set(3, most, 1)", x.set(3, MOST, 1), Due.BEYOND);
        due.is("set(3, least, 1)", x.set(3, LEAST, 1), Due.BEYOND);
    }

    private void get() {
        due.promise(29);
        KnifeDesk x = new KnifeDesk();
        due.is("nothing there", x.get(0, 0), NO);
        x.list(0, 2);
        x.set(0, 1, -7);
        due.is("get(0, 1)", x.get(0, 1), -7);
        due.is("get(0, 0)", x.get(0, 0), 0);
        int[][] bad = {{0, 2}, {0, -1}, {1, 0}, {4, 0}, {-1, 0}, {LEAST, MOST}, {0, MOST}, {0, LEAST}};
        for (int[] b : bad) {
            due.is("get(" + b[0] + ", " + b[1] + ")", x.get(b[0], b[1]), NO);
        }
    }

    private static String places(KnifeDesk x, int list) {
        StringBuilder text = new StringBuilder();
        for (int i = 0; x.get(list, i) != NO; i++) {
            text.append(x.get(list, i)).append(' ');
        }
        return text.toString();
    }

    private void into() {
        due.promise(30);
        KnifeDesk x = Due.desk(4, 3, "w1:9,9,9,9;t1:1,2,3,4");
        due.is("nothing there", x.into(1, 2, 0), Due.NOTHING);
        due.is("nothing ahead of beyond", x.into(1, 2, -1), Due.NOTHING);
        due.is("bad ahead of nothing", x.into(3, 2, 0), BAD);
        x.list(2, 6);
        due.is("into(1, 2, 1)", x.into(1, 2, 1), 4);
        due.isText("what it tells", places(x, 2), "0 1 2 3 4 0 ");
        due.is("into(1, 2, 4)", x.into(1, 2, 4), 2);
        due.isText("until the row ends", places(x, 2), "0 1 2 3 1 2 ");
        due.is("into(1, 2, 6)", x.into(1, 2, 6), 0);
        due.is("into(1, 2, most)", x.into(1, 2, MOST), 0);
        due.is("into(1, 2, -1)", x.into(1, 2, -1), Due.BEYOND);
        due.is("into(1, 2, least)", x.into(1, 2, LEAST), Due.BEYOND);
        due.is("into(-1, 2, 0)", x.into(-1, 2, 0), BAD);
        due.is("into(1, 4, 0)", x.into(1, 4, 0), BAD);
        due.is("into(1, -1, 0)", x.into(1, -1, 0), BAD);
        due.isText("stays", places(x, 2), "0 1 2 3 1 2 ");
        x.list(3, 0);
        due.is("into a row of none", x.into(1, 3, 0), 0);
    }

    private static void fill(KnifeDesk x, int... values) {
        x.list(0, values.length);
        for (int i = 0; i < values.length; i++) {
            x.set(0, i, values[i]);
        }
    }

    private void from() {
        due.promise(31);
        KnifeDesk x = Due.desk(4, 3, "");
        due.is("nothing there", x.from(1, 0, 0), Due.NOTHING);
        due.is("bad ahead of nothing", x.from(3, 0, 0), BAD);
        fill(x, 5, 6, 7, 8, 9, 0);
        due.is("from(1, 0, 0)", x.from(1, 0, 0), 4);
        due.isText("told", Due.row(x, 1, 1), "5678");
        due.isText("worth stays", Due.row(x, 1, 0), "1111");
        due.is("from(1, 0, 3)", x.from(1, 0, 3), 3);
        due.isText("told, until the row ends", Due.row(x, 1, 1), "8908");
        due.is("from(1, 0, 6)", x.from(1, 0, 6), 0);
        due.is("from(1, 0, most)", x.from(1, 0, MOST), 0);
        due.is("from(1, 0, -1)", x.from(1, 0, -1), Due.BEYOND);
        due.is("from(1, 0, least)", x.from(1, 0, LEAST), Due.BEYOND);
        due.is("from(-1, 0, 0)", x.from(-1, 0, 0), BAD);
        due.is("from(1, 4, 0)", x.from(1, 4, 0), BAD);
        due.is("from(1, -1, 0)", x.from(1, -1, 0), BAD);
        due.isText("stays", Due.row(x, 1, 1), "8908");
        fill(x, 3, 4, 10, 5);
        due.is("until one is above 9", x.from(2, 0, 0), 2);
        due.isText("what stood ahead is told", Due.row(x, 2, 1), "3411");
        fill(x, 2, -1, 5);
        due.is("until one is below 0", x.from(2, 0, 0), 1);
        due.isText("what stood ahead is told", Due.row(x, 2, 1), "2411");
        fill(x, MOST, LEAST);
        due.is("at once", x.from(2, 0, 0), 0);
        due.isText("nothing told", Due.row(x, 2, 1), "2411");
    }

    private static String log(KnifeDesk x) {
        return x.count(2) == 1 ? Due.log(x) + " " + Due.shares(x) + " " + x.count(3) : "none";
    }

    private void image() {
        due.promise(32);
        KnifeDesk x = Due.desk(3, 3, "w0:1,1,1;w1:6,2,0;w2:1,1,4;t2:1,2");
        due.promise(33);
        due.is("back() to none", x.back(), STATE);
        due.is("which changes nothing", x.strip(1, 0, 0), 6);
        due.promise(32);
        x.shares(4, 0);
        String before = log(x);
        due.is("image()", x.image(), 3);
        due.is("the division stays", x.event(-1, 0), 11);
        x.list(0, 2);
        x.feed('w');
        x.begin(16, 5);
        x.shares(3, 1);
        x.prints();
        int paper = x.paper(-1);
        due.promise(33);
        due.is("back()", x.back(), 3);
        due.is("the paper is not in it", x.paper(-1), paper);
        due.is("the tape is not in it", x.count(4), 1);
        due.is("lists are not in it", x.get(0, 1), 0);
        due.is("strips", x.count(1), 3);
        due.isText("worth", Due.row(x, 1, 0), "620");
        due.isText("told", Due.row(x, 2, 1), "124");
        due.isText("not as told", Due.row(x, 2, 0), "114");
        due.isText("the log and the division", log(x), before);
        x.worth(1, 0, 0);
        x.shares(1, 2);
        due.is("the image is not what it was laid to", x.back(), 3);
        due.isText("again", log(x), before);
        due.isText("worth again", Due.row(x, 1, 0), "620");
        due.promise(32);
        x = new KnifeDesk();
        x.shares(4, 0);
        x.image();
        x.begin(2, 2);
        due.is("a newer image", x.image(), 2);
        x.begin(4, 4);
        x.shares(1, 0);
        due.promise(33);
        due.is("back() to it", x.back(), 2);
        due.isText("without a division", log(x), "none");
        due.is("no unit", x.count(3), STATE);
        due.is("no events", x.count(6), 0);
    }

    private void count() {
        due.promise(34);
        KnifeDesk x = Due.desk(16, 5, "w0:1,2,3,4,5");
        int[] fresh = {5, 16, 0, STATE, 0, 0, 0};
        for (int what = 0; what < 7; what++) {
            due.is("count(" + what + ")", x.count(what), fresh[what]);
        }
        due.is("count(7)", x.count(7), BAD);
        due.is("count(-1)", x.count(-1), BAD);
        due.is("count(most)", x.count(MOST), BAD);
        due.is("count(least)", x.count(LEAST), BAD);
        x.begin(3, 3);
        Due.worths(x, "w0:1,1,1;w1:6,2,0;w2:1,1,4");
        x.shares(4, 0);
        x.prints();
        x.feed('a');
        x.feed('b');
        int[] shared = {3, 3, 1, 9, 2, 85, 11};
        for (int what = 0; what < 7; what++) {
            due.is("count(" + what + ")", x.count(what), shared[what]);
        }
        // a mark that no share has counts too: 1's 5/2 by 3
        x = Due.desk(5, 2, "w0:1,1,1,1,1;w1:1,0,1,0,3");
        x.shares(1, 0);
        due.isText("log", Due.log(x), "m0 5/2;m1 25/6;g0 0-5/2;g1 5/2-5;");
        due.is("unit", x.count(3), 6);
        Due.divides(x, "1=1/4-1/2,2-2/1;0=1/6-1/6");
        due.is("unit of a told one", x.count(3), 12);
        due.is("events of a told one", x.count(6), 0);
    }

    public static void main(String[] args) {
        RowsTest test = new RowsTest();
        test.list();
        test.set();
        test.get();
        test.into();
        test.from();
        test.image();
        test.count();
        test.due.end("RowsTest");
    }
}
