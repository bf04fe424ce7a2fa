/** Promises 9 to 11: stroke, put, barge. */
public final class BargeTest {
    public static void main(String[] args) {
        onePulls();
        twoPull();
        strikes();
        stream();
        homeBehindAStroke();
        mindless();
        mindful();
        strokeNo();
        put();
        bargeBad();
        Check.end();
    }

    /** One STROKE from 2, 2 with its bow to SIDE 1, manners 3 (pulls always) for those told. */
    private static EachSeesOne rowed(int rowers) {
        EachSeesOne x = Check.laid("h5,5;b2,2,1;");
        for (int r = 0; r < 4; r++) {
            x.manner(r, (rowers >> r & 1) == 1 ? 3 : 0);
        }
        Check.due("stroke by " + rowers, x.stroke(), 0);
        return x;
    }

    private static void onePulls() {
        int[] cells = {15, 14, 13, 14};
        int[] bows = {1, 0, 1, 2};
        for (int r = 0; r < 4; r++) {
            EachSeesOne x = rowed(1 << r);
            Check.due("cell by rower " + r, x.barge(0), cells[r]);
            Check.due("bow by rower " + r, x.barge(1), bows[r]);
            Check.due("strokes by rower " + r, x.barge(3), 1);
        }
    }

    private static void twoPull() {
        // first the bow turns, then it goes to where the bow is now
        int[] rowers = {0, 5, 10, 15, 3, 9, 6, 12, 11, 13};
        int[] cells = {14, 14, 14, 14, 8, 20, 20, 8, 15, 14};
        int[] bows = {1, 1, 1, 1, 0, 2, 0, 2, 1, 2};
        for (int i = 0; i < rowers.length; i++) {
            EachSeesOne x = rowed(rowers[i]);
            Check.due("cell by " + rowers[i], x.barge(0), cells[i]);
            Check.due("bow by " + rowers[i], x.barge(1), bows[i]);
        }
        EachSeesOne x = Check.laid("h5,5;b2,2,3;m3,3;");
        x.stroke();
        Check.due("from SIDE 3 to starboard is SIDE 0", x.barge(1), 0);
        x = Check.laid("h5,5;b2,2,0;m1,3;");
        x.stroke();
        Check.due("from SIDE 0 to port is SIDE 3", x.barge(1), 3);
    }

    private static void strikes() {
        // out at each SIDE, ahead and astern
        int[] cells = {1, 11, 34, 24};
        for (int s = 0; s < 4; s++) {
            for (int r = 0; r < 4; r += 2) {
                EachSeesOne x = Check.laid("h2,2;m" + r + ",3;");
                x.put(cells[s], (s + r) % 4);
                Check.due("out at " + s, x.stroke(), 2);
                int[] barge = {cells[s], (s + r) % 4, 0, 1, 2};
                for (int i = 0; i < 5; i++) {
                    Check.due("out at " + s + ": barge " + i, x.barge(i), barge[i]);
                }
            }
        }
        EachSeesOne x = Check.laid("h5,5;x2,1;b2,2,1;m0,3;m1,3;");
        Check.due("into a ROCK", x.stroke(), 2);
        Check.due("into a ROCK: stays", x.barge(0), 14);
        Check.due("into a ROCK: has turned", x.barge(1), 0);
        Check.due("into a ROCK: the STROKE counts", x.barge(3), 1);
        Check.due("into a ROCK: no more", x.stroke(), -2);
        x = Check.laid("h5,5;x2,1;b2,2,1;m0,3;m1,3;s1,1;");
        x.stroke();
        Check.due("struck: no STREAM", x.barge(0), 14);
        x = Check.laid("h5,5;b5,2,1;m0,23;");
        Check.due("struck", x.stroke(), 2);
        Check.due("struck: what is borne in mind all the same", x.barge(2), 1);
    }

    private static void stream() {
        int[] toSide = {7, 14, 19, 12};
        for (int s = 0; s < 4; s++) {
            EachSeesOne x = Check.laid("h5,5;b1,2,1;s" + s + ",3;");
            x.stroke();
            x.stroke();
            Check.due("ahead of the third STROKE", x.barge(0), 13);
            Check.due("third STROKE", x.stroke(), 0);
            Check.due("to SIDE " + s, x.barge(0), toSide[s]);
            Check.due("the bow stays", x.barge(1), 1);
        }
        EachSeesOne x = Check.laid("w8,2;h7,1;s1,2;");
        for (int t = 1; t <= 14; t++) {
            Check.due("each second STROKE", x.stroke(), 0);
            Check.due("each second STROKE", x.barge(0), t / 2);
        }
        x.stroke();
        Check.due("out by the STREAM", x.stroke(), 2);
        Check.due("out by the STREAM: stays", x.barge(0), 7);
        x.put(0, 1);
        Check.due("t begins anew", x.stroke(), 0);
        Check.due("t begins anew", x.barge(0), 0);
        x = Check.laid("h5,5;x3,3;b1,3,1;m0,3;s1,1;");
        Check.due("into a ROCK by the STREAM", x.stroke(), 2);
        Check.due("stays where it came by rowing", x.barge(0), 20);
        Check.due("the last STREAM told counts", Check.laid("h5,5;s1,1;s0,0;").run(0, 1, 1), 99);
    }

    private static void homeBehindAStroke() {
        EachSeesOne x = Check.laid("h2,0;m0,3;s2,2;");
        x.stroke();
        Check.due("through HOME by the STREAM: not HOME", x.stroke(), 0);
        Check.due("through HOME", x.barge(0), 8);
        x = Check.laid("h2,1;m0,3;s2,2;");
        x.stroke();
        Check.due("HOME by the STREAM", x.stroke(), 1);
        Check.due("HOME by the STREAM", x.barge(4), 1);
        x = Check.laid("h2,0;m0,3;s0,2;");
        x.stroke();
        Check.due("the STREAM strikes in HOME: STRUCK", x.stroke(), 2);
        Check.due("the STREAM strikes in HOME", x.barge(0), 2);
        Check.due("the STREAM strikes in HOME", x.barge(4), 2);
        x = Check.laid("h2,0;m0,3;");
        x.stroke();
        Check.due("HOME by rowing", x.stroke(), 1);
        Check.due("no more", x.stroke(), -2);
        Check.due("no more", x.barge(3), 2);
        x = Check.laid("h2,0;x2,0;h5,5;m0,3;");
        x.stroke();
        Check.due("a HOME on a ROCK strikes", x.stroke(), 2);
    }

    private static void mindless() {
        // by ROWER 0 alone: manner 1 pulls in the open, 2 before an edge
        for (int t = 0; t < 4; t++) {
            EachSeesOne x = Check.laid("h5,5;b4,2,1;m0," + t + ";");
            x.stroke();
            Check.due("in the open, manner " + t, x.barge(0), t == 1 || t == 3 ? 17 : 16);
            Check.due("bears nothing", x.barge(2), 0);
            x.put(17, 1);
            Check.due("at the edge, manner " + t, x.stroke(), t >= 2 ? 2 : 0);
            Check.due("bears nothing", x.barge(2), 0);
        }
        EachSeesOne x = Check.laid("h5,5;b4,2,1;m0,19;");
        x.stroke();
        Check.due("bears 1", x.barge(2), 1);
        x.manner(0, 0);
        Check.due("a MANNER changed: what is borne stays", x.barge(2), 1);
        x.stroke();
        Check.due("bears 0 by a MANNER below 4", x.barge(2), 0);
        // what was borne in mind by another MANNER does not count for one below 4
        for (int t = 0; t < 4; t++) {
            x = Check.laid("w8,3;h7,2;b1,1,1;m0,19;");
            x.stroke();
            x.manner(0, t);
            Check.due("bears 1", x.barge(2), 1);
            Check.due("bears 1, in the open, manner " + t, x.stroke(), 0);
            Check.due("bears 1, in the open, manner " + t, x.barge(0), t == 1 || t == 3 ? 11 : 10);
            x = Check.laid("w8,3;h7,2;b6,1,1;m0,19;");
            x.stroke();
            x.manner(0, t);
            Check.due("bears 1, at the edge, manner " + t, x.stroke(), t >= 2 ? 2 : 0);
        }
    }

    private static void mindful() {
        // U from 0 to 59 by ROWER 3, who turns it to starboard: what he does and bears for each v and m
        for (int u = 0; u < 60; u++) {
            for (int index = 0; index < 4; index++) {
                int v = index & 1;
                EachSeesOne x = Check.laid("w8,8;h7,7;b4,4,3;m3,19;");
                if (index >= 2) {
                    x.stroke();
                    Check.due("bears 1 by U 15", x.barge(2), 8);
                } else {
                    x.put(36, 0);
                }
                // the bow is to 0 now, he looks to SIDE 3
                x.manner(3, u + 4);
                int bow = 0;
                if (v == 1) {
                    x = beforeAWall(index >= 2, u + 4);
                }
                int pulls = u % 16 >> index & 1;
                x.stroke();
                Check.due("U " + u + ", v and m " + index + ": bow", x.barge(1), bow + pulls);
                Check.due("U " + u + ", v and m " + index + ": bears", x.barge(2), 8 * (u >= 32 ? v : pulls));
            }
        }
        EachSeesOne x = Check.laid("h5,5;b2,0,1;m0,36;m1,36;m2,36;m3,36;");
        x.stroke();
        Check.due("each bears what he SEES himself", x.barge(2), 8);
        x = Check.laid("h5,5;b2,2,1;m0,4;m1,19;m2,4;m3,19;");
        x.stroke();
        Check.due("each bears what he does himself", x.barge(2), 10);
    }

    /** The bow to 0 in a cell whose SIDE 3 is the edge, m as told, the manner of ROWER 3 taught. */
    private static EachSeesOne beforeAWall(boolean bearsOne, int manner) {
        EachSeesOne x = Check.laid("w8,8;h7,7;b0,4,3;m3,19;");
        if (bearsOne) {
            x.stroke();
        } else {
            x.put(32, 0);
        }
        x.manner(3, manner);
        return x;
    }

    private static void strokeNo() {
        EachSeesOne x = Check.laid("h0,0;b0,0,1;m0,3;");
        Check.due("HOME at first", x.barge(4), 1);
        Check.due("HOME at first: no STROKE", x.stroke(), -2);
        Check.due("HOME at first: no STROKE", x.barge(3), 0);
        x.manner(0, 1);
        Check.due("a MANNER changed: still HOME", x.stroke(), -2);
        x = Check.laid("h5,5;b5,0,1;m0,3;");
        x.stroke();
        x.manner(0, 0);
        Check.due("a MANNER changed: still STRUCK", x.stroke(), -2);
        Check.due("still STRUCK", x.barge(4), 2);
        x.put(5, 1);
        Check.due("put: not STRUCK any more", x.stroke(), 0);
        x = Check.laid("h5,5;");
        for (int t = 1; t <= 300; t++) {
            Check.due("strokes without end", x.stroke(), 0);
        }
        Check.due("strokes without end", x.barge(3), 300);
    }

    private static void put() {
        EachSeesOne x = Check.laid("w4,3;h3,2;x1,1;m0,19;");
        x.stroke();
        x.wake(3);
        Check.due("put", x.put(8, 3), 0);
        int[] barge = {8, 3, 0, 0, 0};
        for (int i = 0; i < 5; i++) {
            Check.due("put: barge " + i, x.barge(i), barge[i]);
        }
        Check.due("put: the WAKE stays", x.count(2), 1);
        Check.due("put: the MANNER stays", x.manner(0, 19), 19);
        Check.due("put HOME", x.put(11, 2), 1);
        int[] home = {11, 2, 0, 0, 1};
        for (int i = 0; i < 5; i++) {
            Check.due("put HOME: barge " + i, x.barge(i), home[i]);
        }
        int[] badCells = {-1, 12, 5, 64, Integer.MAX_VALUE, Integer.MIN_VALUE};
        for (int c : badCells) {
            Check.due("put into " + c, x.put(c, 0), -1);
        }
        int[] badBows = {-1, 4, Integer.MAX_VALUE, Integer.MIN_VALUE};
        for (int b : badBows) {
            Check.due("put with bow " + b, x.put(0, b), -1);
        }
        for (int i = 0; i < 5; i++) {
            Check.due("put bad: barge " + i, x.barge(i), home[i]);
        }
    }

    private static void bargeBad() {
        EachSeesOne x = new EachSeesOne();
        int[] bad = {-1, 5, Integer.MAX_VALUE, Integer.MIN_VALUE};
        for (int what : bad) {
            Check.due("barge " + what, x.barge(what), -1);
        }
    }
}
