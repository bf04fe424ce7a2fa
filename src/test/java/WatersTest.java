/** Promises 1 to 8: a new object, write, wipe, fault, lay, cell, sees, manner. */
public final class WatersTest {
    public static void main(String[] args) {
        newObject();
        write();
        wipe();
        faultOfGoodTexts();
        faultOfBadTexts();
        lay();
        layNo();
        layChanges();
        cell();
        sees();
        manner();
        Check.end();
    }

    private static void newObject() {
        EachSeesOne x = new EachSeesOne();
        int[] counts = {36, 140, 0, 0, 0};
        for (int i = 0; i < 5; i++) {
            Check.due("new: count " + i, x.count(i), counts[i]);
        }
        for (int c = 0; c < 36; c++) {
            Check.due("new: cell " + c, x.cell(c), c == 35 ? 2 : 0);
        }
        int[] barge = {0, 1, 0, 0, 0};
        for (int i = 0; i < 5; i++) {
            Check.due("new: barge " + i, x.barge(i), barge[i]);
        }
        for (int r = 0; r < 4; r++) {
            Check.due("new: manner " + r, x.manner(r, 0), 0);
        }
        Check.due("new: fault", x.fault(), -4);
        Check.due("new: far is 1", x.sees(1, 3, 0), 0);
        Check.due("new: far is 1", x.sees(0, 3, 0), 1);
        for (int t = 0; t < 9; t++) {
            Check.due("new: no stream", x.stroke(), 0);
        }
        Check.due("new: no stream", x.barge(0), 0);
        Check.due("new: lay", x.lay(), -2);
        Check.due("new: back", x.back(), -2);
        Check.due("new: homes", x.homes(), 0);
    }

    private static void write() {
        EachSeesOne x = new EachSeesOne();
        int[] bad = {0, 9, -1, 16, Integer.MAX_VALUE, Integer.MIN_VALUE};
        for (int n : bad) {
            Check.due("write " + n, x.write(n, 59), -1);
        }
        Check.due("write bad: nothing", x.count(4), 0);
        // 'v1;' is in the three lowest bytes; what is above them does not count
        Check.due("write 3", x.write(3, 0xFFFFFFFFFF000000L | 0x76313BL), 3);
        Check.due("write: fault", x.fault(), -4);
        Check.due("write 8", x.write(8, 0x68302C303B76323BL), 11);
        Check.due("write: fault", x.fault(), -4);
        Check.due("write: lay", x.lay(), 140);
        Check.due("write 1", x.write(1, -1L), 12);
        Check.due("write: fault", x.fault(), 11);
        x.wipe();
        for (int i = 1; i <= 49; i++) {
            Check.due("write", x.write(8, 0x763237373B3B3B3BL), 8 * i);
        }
        Check.due("write", x.write(7, 0), 399);
        Check.due("write full", x.write(2, 0), -3);
        Check.due("write full", x.write(8, 0), -3);
        Check.due("write bad ahead of full", x.write(9, 0), -1);
        Check.due("write full: nothing", x.count(4), 399);
        Check.due("write 400", x.write(1, 0), 400);
        Check.due("write full", x.write(1, 0), -3);
        Check.due("write bad ahead of full", x.write(0, 0), -1);
        Check.due("write: 400", x.count(4), 400);
        Check.due("write: fault", x.fault(), 0);
    }

    private static void wipe() {
        EachSeesOne x = new EachSeesOne();
        Check.due("wipe", x.wipe(), 0);
        Check.write(x, "h1,1;q");
        Check.due("wipe: fault ahead", x.fault(), 5);
        Check.due("wipe", x.wipe(), 6);
        Check.due("wipe", x.wipe(), 0);
        Check.due("wipe: count", x.count(4), 0);
        Check.due("wipe: fault", x.fault(), -4);
        Check.due("wipe: what is laid stays", x.cell(35), 2);
        // what was wiped stands no more behind a shorter text
        Check.write(x, "h1,1");
        Check.due("wipe: shorter", x.fault(), 0);
        for (int i = 0; i < 49; i++) {
            x.write(8, 0x76313B76313B7631L);
        }
        Check.due("wipe", x.wipe(), 396);
        Check.write(x, "v1;v1");
        Check.due("wipe: shorter", x.fault(), 3);
    }

    private static void faultOfGoodTexts() {
        String[] good = {
            "", "w2,2;", "w8,8;", "w2,8;", "w02,08;", "x0,0;", "x7,7;", "x07,00;", "h0,0;", "h7,7;", "s0,0;", "s3,9;", "s03,09;",
            "v1;", "v7;", "v01;", "m0,0;", "m3,63;", "m03,07;", "b0,0,0;", "b7,7,3;", "b07,07,03;", "m1,10;m1,9;",
            "w3,3;x7,7;x7,7;h6,6;s1,1;s2,2;v3;v4;m0,5;m0,6;b7,7,3;b0,0,0;"};
        for (String text : good) {
            Check.due("fault of " + text, faultOf(text), -4);
        }
    }

    private static void faultOfBadTexts() {
        String[] bad = {
            "w1,2;", "w2,1;", "w9,2;", "w2,9;", "w0,2;", "x8,0;", "x0,8;", "x10,0;", "h8,0;", "h0,8;", "h0,10;", "s4,0;", "s0,10;",
            "v0;", "v8;", "v00;", "v10;", "m4,0;", "m0,64;", "m0,99;", "b8,0,0;", "b0,8,0;", "b0,0,4;", "b0,0,10;",
            "w", ";", ",", "w;", "w2;", "w2,;", "w,2;", "w2,2", "w2,2,2;", "w2,2,", "w2;2;", "w2,2,;", "w2 ,2;", "w 2,2;", "W2,2;",
            "v", "v1", "v;", "v1,1;", "v001;", "v1,;", "v-1;", "v+1;", "v1:", "v/;", "v1;;".substring(3), "m0,063;", "b0,0;", "b0,0,0,0;",
            "b0,0,0", "h0;", "h0,0,0;", "x0;", "s0;", "m0;", "a1;", "y1,1;", "z;", " v1;", "\u00f71;", "\u0000", "v\u0000;", "v\u00b1;",
            "1v;", "vv1;", "x,0;", "x0,;", "x,;", "m,;", "b,,;", "b0,,0;", "m0,:;", "m0,A;", "m0,/;", "m0,0/;", "m0,1:;", "m0,a;", "v1 ;", "v\n;"};
        for (String text : bad) {
            Check.due("fault of " + text, faultOf(text), 0);
            Check.due("fault behind others of " + text, faultOf("h1,1;v01;" + text), 9);
            Check.due("fault of the first, " + text, faultOf("b1,1,1;" + text + "v9;v1;"), 7);
            EachSeesOne x = new EachSeesOne();
            Check.write(x, "h1,1;" + text);
            Check.due("lay of " + text, x.lay(), -2);
        }
        Check.due("fault at the second ;", faultOf("v1;;"), 3);
        Check.due("fault behind a good one", faultOf("v1;v2;v3;v4;v5;v6;v7;v8;v9;"), 21);
        EachSeesOne x = new EachSeesOne();
        for (int i = 0; i < 50; i++) {
            x.write(8, 0x683030302C303B3BL);
        }
        Check.due("fault of h000,0;;", x.fault(), 0);
        x.wipe();
        for (int i = 0; i < 50; i++) {
            x.write(8, 0x6D30302C30333B76L);
        }
        Check.due("fault of m00,03;v..", x.fault(), 7);
        x.wipe();
        for (int i = 0; i < 49; i++) {
            x.write(8, 0x6D30302C30333B00L | (i == 48 ? 0x3B : 0x76));
        }
        Check.due("fault of m00,03;v..", x.fault(), 7);
        x.wipe();
        for (int i = 0; i < 133; i++) {
            x.write(3, 0x76313BL);
        }
        Check.due("fault of 133 v1;", x.fault(), -4);
        x.write(1, 0x76L);
        Check.due("fault at the last byte", x.fault(), 399);
    }

    private static int faultOf(String text) {
        EachSeesOne x = new EachSeesOne();
        Check.due("length of " + text, Check.write(x, text), text.length());
        return x.fault();
    }

    private static int layOf(String text) {
        EachSeesOne x = new EachSeesOne();
        Check.write(x, text);
        return x.lay();
    }

    private static void lay() {
        Check.due("lay: 6 by 6", layOf("h0,5;"), 140);
        Check.due("lay: one HOME told twice", layOf("h0,5;h0,5;"), 140);
        Check.due("lay: two HOMES", layOf("h0,5;h5,0;"), 136);
        Check.due("lay: ROCKS", layOf("h0,5;x1,1;x2,2;x1,1;"), 132);
        Check.due("lay: beyond the WATER", layOf("h0,5;x6,0;x0,6;x7,7;h7,0;h0,7;"), 140);
        Check.due("lay: the last WATER", layOf("w8,8;h1,1;w2,3;"), 20);
        Check.due("lay: WATER behind", layOf("h7,7;x7,6;w8,8;"), 248);
        Check.due("lay: WATER by its X", layOf("h7,1;w8,2;"), 60);
        Check.due("lay: WATER by its Y", layOf("h1,7;w2,8;"), 60);
        Check.due("lay: all HOMES", layOf("w2,2;h0,0;h0,1;h1,0;h1,1;"), 0);
        Check.due("lay: a HOME on a ROCK and one beside", layOf("w2,2;h1,1;x1,1;h1,0;"), 8);
        Check.due("lay: the last BARGE", layOf("h0,5;b7,7,0;x0,0;b1,0,0;"), 136);
    }

    private static void layNo() {
        String[] no = {
            "", "v1;", "h6,0;", "h0,6;", "h7,7;", "w2,2;h2,0;", "w2,2;h0,2;", "h5,5;x5,5;", "x5,5;h5,5;", "h5,5;x0,0;", "h5,5;b6,0,0;",
            "h5,5;b0,6,0;", "h5,5;x3,3;b3,3,1;", "h5,5;b7,7,1;", "w8,8;h7,7;w7,7;", "h0,0;h1,1;x0,0;x1,1;b2,2,0;", "h0,0", "h0,0;v0;"};
        for (String text : no) {
            Check.due("lay of " + text, layOf(text), -2);
        }
        EachSeesOne x = Check.laid("w3,3;h2,2;x1,1;s2,2;v2;m0,1;m1,2;m2,3;m3,4;b1,0,2;");
        x.manner(0, 9);
        x.wake(3);
        x.keep();
        x.put(0, 3);
        x.wipe();
        Check.write(x, "w4,4;h0,0;m0,7;x1,0;b1,0,1;");
        Check.due("lay no", x.lay(), -2);
        int[] counts = {9, 28, 1, 1, 27};
        for (int i = 0; i < 5; i++) {
            Check.due("lay no: count " + i, x.count(i), counts[i]);
        }
        Check.due("lay no: barge", x.barge(0), 0);
        Check.due("lay no: bow", x.barge(1), 3);
        Check.due("lay no: cell", x.cell(4), 1);
        Check.due("lay no: cell", x.cell(8), 2);
        Check.due("lay no: manner", x.manner(0, 0), 9);
        Check.due("lay no: best stays", x.best(-1), Check.laid("w3,3;h2,2;x1,1;s2,2;v2;").best(-1));
    }

    private static void layChanges() {
        EachSeesOne x = new EachSeesOne();
        Check.write(x, "w5,4;h4,3;m0,1;m1,2;m2,3;m3,63;m3,62;b3,2,0;");
        x.wake(1);
        x.keep();
        x.keep();
        Check.due("lay", x.lay(), 76);
        int[] counts = {20, 76, 0, 0, 44};
        for (int i = 0; i < 5; i++) {
            Check.due("lay: count " + i, x.count(i), counts[i]);
        }
        int[] barge = {13, 0, 0, 0, 0};
        for (int i = 0; i < 5; i++) {
            Check.due("lay: barge " + i, x.barge(i), barge[i]);
        }
        int[] manners = {1, 2, 3, 62};
        for (int r = 0; r < 4; r++) {
            Check.due("lay: manner " + r, x.manner(r, 5), manners[r]);
        }
        for (int t = 0; t < 4; t++) {
            x.stroke();
        }
        Check.due("lay again", x.lay(), 76);
        for (int i = 0; i < 5; i++) {
            Check.due("lay again: barge " + i, x.barge(i), barge[i]);
        }
        for (int r = 0; r < 4; r++) {
            Check.due("lay again: manner " + r, x.manner(r, 5), manners[r]);
        }
        x.wipe();
        Check.write(x, "h0,0;");
        Check.due("lay: what isn't told is as without", x.lay(), 140);
        int[] atHome = {0, 1, 0, 0, 1};
        for (int i = 0; i < 5; i++) {
            Check.due("lay at home: barge " + i, x.barge(i), atHome[i]);
        }
        Check.due("lay at home: manner", x.manner(3, 0), 0);
        Check.due("lay at home: stroke", x.stroke(), -2);
        x.best(-1);
        x.wipe();
        Check.write(x, "w2,2;h0,0;h0,1;h1,0;h1,1;");
        x.lay();
        Check.due("lay: best anew", x.best(-1), 0);
    }

    private static void cell() {
        EachSeesOne x = Check.laid("w3,2;h2,1;x1,0;h1,0;x3,0;h4,4;h0,1;");
        int[] kinds = {0, 1, 0, 2, 0, 2};
        for (int c = 0; c < 6; c++) {
            Check.due("cell " + c, x.cell(c), kinds[c]);
        }
        int[] bad = {6, -1, 7, 64, Integer.MAX_VALUE, Integer.MIN_VALUE};
        for (int c : bad) {
            Check.due("cell " + c, x.cell(c), -1);
        }
        EachSeesOne y = Check.laid("w8,8;h7,7;x7,0;");
        Check.due("cell 7", y.cell(7), 1);
        Check.due("cell 63", y.cell(63), 2);
        Check.due("cell 64", y.cell(64), -1);
        y.wipe();
        Check.write(y, "w8,8;h0,7;b1,0,0;");
        Check.due("laid anew", y.lay(), 252);
        Check.due("cell laid anew", y.cell(7), 0);
        Check.due("cell laid anew", y.cell(63), 0);
        Check.due("cell laid anew", y.cell(56), 2);
        // what another text told of the first CELL and ROWER, too
        y.wipe();
        Check.write(y, "x0,0;b1,0,1;h5,5;m0,9;m3,9;");
        Check.due("a ROCK in the first", y.lay(), 136);
        y.wipe();
        Check.write(y, "h0,0;h5,5;");
        Check.due("HOME in the first", y.lay(), 136);
        Check.due("HOME in the first", y.cell(0), 2);
        Check.due("manner of the first", y.manner(0, 9), 0);
        Check.due("manner of the last", y.manner(3, 9), 0);
        y.wipe();
        Check.write(y, "h5,5;");
        Check.due("open", y.lay(), 140);
        Check.due("open", y.cell(0), 0);
    }

    private static void sees() {
        // 5 by 4, a ROCK at 3, 1: from 1, 1 it is two CELLS away to SIDE 1
        EachSeesOne x = Check.laid("w5,4;h0,0;x3,1;");
        EachSeesOne y = Check.laid("w5,4;h0,0;x3,1;v2;");
        EachSeesOne z = Check.laid("w5,4;h0,0;x3,1;v7;");
        int[] one = {0, 0, 0, 0};
        int[] two = {1, 1, 0, 1};
        int[] seven = {1, 1, 1, 1};
        for (int bow = 0; bow < 4; bow++) {
            for (int r = 0; r < 4; r++) {
                int side = (bow + r) % 4;
                Check.due("sees 1 far " + side, x.sees(6, bow, r), one[side]);
                Check.due("sees 2 far " + side, y.sees(6, bow, r), two[side]);
                Check.due("sees 7 far " + side, z.sees(6, bow, r), seven[side]);
                Check.due("sees the ROCK beside " + side, x.sees(7, bow, r), side == 1 ? 1 : 0);
                Check.due("sees the edge in a corner " + side, x.sees(19, bow, r), side == 1 || side == 2 ? 1 : 0);
                Check.due("sees in a ROCK " + side, x.sees(8, bow, r), 0);
            }
        }
        Check.due("sees behind the ROCK", y.sees(9, 3, 0), 1);
        Check.due("sees HOME as open", x.sees(1, 3, 0), 0);
        Check.due("sees to the next row never", x.sees(4, 1, 0), 1);
        int[] bad = {-1, 4, Integer.MAX_VALUE, Integer.MIN_VALUE};
        for (int b : bad) {
            Check.due("sees bad bow", x.sees(0, b, 0), -1);
            Check.due("sees bad rower", x.sees(0, 0, b), -1);
        }
        Check.due("sees bad cell", x.sees(-1, 0, 0), -1);
        Check.due("sees bad cell", x.sees(20, 0, 0), -1);
        Check.due("sees last cell", x.sees(19, 3, 3), 1);
    }

    private static void manner() {
        EachSeesOne x = new EachSeesOne();
        Check.due("manner", x.manner(0, 63), 0);
        Check.due("manner", x.manner(3, 1), 0);
        Check.due("manner", x.manner(0, 0), 63);
        Check.due("manner", x.manner(3, 2), 1);
        Check.due("manner", x.manner(3, 2), 2);
        int[] badRowers = {-1, 4, Integer.MAX_VALUE, Integer.MIN_VALUE};
        for (int r : badRowers) {
            Check.due("manner of " + r, x.manner(r, 0), -1);
        }
        int[] badManners = {-1, 64, Integer.MAX_VALUE, Integer.MIN_VALUE};
        for (int t : badManners) {
            Check.due("manner " + t, x.manner(3, t), -1);
        }
        Check.due("manner bad: nothing", x.manner(3, 0), 2);
        Check.due("manner counts at once: run", x.run(0, 1, 0), 0);
        x.manner(0, 3);
        Check.due("manner counts at once: run", x.run(0, 1, 0), 2);
        x.manner(2, 3);
        Check.due("manner counts at once: run", x.run(0, 1, 0), 0);
    }
}
