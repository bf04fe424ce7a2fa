/** Promises 12 to 19: run, seen, homes, best, mind, stranger, seats, hum. */
public final class RunsTest {
    private static final String LONG = "w8,8;h4,1;v1;s1,0;m0,33;m1,54;m2,34;m3,27;";

    public static void main(String[] args) {
        run();
        runOfNinetyNine();
        seen();
        homes();
        best();
        mind();
        stranger();
        seats();
        forgets();
        hum();
        humEdges();
        badNumbers();
        Check.end();
    }

    private static void dueRun(String name, EachSeesOne x, int c, int bow, int... due) {
        for (int what = 0; what < 4; what++) {
            Check.due(name + ": run " + what, x.run(c, bow, what), due[what]);
        }
    }

    private static void run() {
        EachSeesOne x = Check.laid("h5,5;x2,2;m0,3;b3,3,0;");
        dueRun("to the edge", x, 0, 1, 2, 6, 5, 1);
        dueRun("to HOME", x, 30, 1, 1, 5, 35, 1);
        dueRun("from HOME", x, 35, 3, 1, 0, 35, 3);
        dueRun("to a ROCK", x, 12, 1, 2, 2, 13, 1);
        dueRun("a STROKE that strikes", x, 5, 0, 2, 1, 5, 0);
        int[] barge = {21, 0, 0, 0, 0};
        for (int i = 0; i < 5; i++) {
            Check.due("run: the BARGE stays: " + i, x.barge(i), barge[i]);
        }
        x = Check.laid("h5,5;m3,3;");
        dueRun("turns for ever", x, 7, 1, 0, 99, 7, 0);
        // what the BARGE bears in mind and its t count in no RUN
        x = Check.laid("w8,2;h7,1;m0,16;s1,2;");
        dueRun("bears 0 at first", x, 0, 1, 2, 16, 7, 1);
        x.manner(0, 19);
        x.stroke();
        Check.due("bears 1", x.barge(2), 1);
        x.manner(0, 16);
        dueRun("bears 0 at first", x, 0, 1, 2, 16, 7, 1);
        x = Check.laid("w8,8;h7,7;m0,3;m2,3;s1,3;");
        dueRun("the STREAM alone", x, 0, 2, 2, 24, 7, 2);
        dueRun("the STREAM alone, HOME", x, 56, 2, 1, 21, 63, 2);
    }

    private static void runOfNinetyNine() {
        EachSeesOne x = Check.laid(LONG);
        dueRun("HOME in STROKE 99", x, 6, 1, 1, 99, 12, 2);
        dueRun("HOME in STROKE 101: not", x, 5, 0, 0, 99, 3, 1);
        x.put(5, 0);
        for (int t = 1; t <= 100; t++) {
            Check.due("the BARGE has no such end", x.stroke(), 0);
            if (t == 99) {
                Check.due("where the RUN was", x.run(5, 0, 2), x.barge(0));
                Check.due("where the RUN was", x.run(5, 0, 3), x.barge(1));
            }
        }
        Check.due("the BARGE is HOME in 101", x.stroke(), 1);
        Check.due("homes counts 99 and not 101", x.homes(), 87);
        x = Check.laid("w8,8;x6,6;x4,7;x7,2;h0,7;v1;s0,5;m0,13;m1,60;m2,27;m3,39;");
        Check.due("99, with a STREAM", x.run(9, 3, 1), 99);
        Check.due("99, with a STREAM", x.run(9, 3, 0), 1);
        Check.due("104, with a STREAM", x.run(8, 3, 0), 0);
        Check.due("homes with a STREAM", x.homes(), 21);
        x = Check.laid("w8,8;x2,0;h1,7;v2;s2,9;m0,39;m1,7;m2,62;m3,14;");
        Check.due("99, each ninth", x.run(42, 3, 1), 99);
        Check.due("homes, each ninth", x.homes(), 42);
        Check.due("mind, each ninth", x.mind(0, 0), 167);
        // of each of these some START is HOME in STROKE 100 and not in 99
        Check.due("homes: 100 is too late", Check.laid("w8,8;h7,6;s1,5;m0,27;m1,18;m2,22;m3,34;").homes(), 36);
        Check.due("homes: 100 is too late", Check.laid("w6,2;h4,0;s1,6;m0,35;m1,6;m2,49;m3,35;").homes(), 20);
        Check.due("homes: 100 is too late", Check.laid("w4,7;h0,1;s0,9;m0,3;m1,31;m2,62;m3,48;").homes(), 31);
    }

    private static void seen() {
        EachSeesOne x = Check.laid("h5,5;m0,3;");
        int[][] due = {{0, 0, 0, 0, 0, 1}, {0, 0, 0, 0, 0, 0}, {1, 0, 0, 0, 0, 0}, {1, 1, 1, 1, 1, 1}};
        for (int r = 0; r < 4; r++) {
            for (int t = 1; t <= 6; t++) {
                Check.due("seen by " + r + " ahead of " + t, x.seen(0, 1, r, t), due[r][t - 1]);
            }
            Check.due("seen: not done", x.seen(0, 1, r, 7), -4);
            Check.due("seen: not done", x.seen(0, 1, r, 99), -4);
            Check.due("seen from HOME", x.seen(35, 1, r, 1), -4);
            Check.due("seen: HOME ahead", x.seen(33, 1, r, 2), r == 2 || r == 0 || r == 3 ? 0 : 1);
            Check.due("seen: HOME", x.seen(33, 1, r, 3), -4);
        }
        x = Check.laid("h5,5;");
        Check.due("seen ahead of 99", x.seen(0, 0, 0, 99), 1);
        Check.due("seen ahead of 99", x.seen(0, 1, 0, 99), 0);
        int[] badT = {0, 100, -1, Integer.MAX_VALUE, Integer.MIN_VALUE};
        for (int t : badT) {
            Check.due("seen ahead of " + t, x.seen(0, 0, 0, t), -1);
        }
        Check.due("seen: bad ahead of none", x.seen(35, 0, 4, 1), -1);
        Check.due("seen: bad ahead of none", x.seen(35, 4, 0, 1), -1);
    }

    private static void homes() {
        EachSeesOne x = new EachSeesOne();
        Check.due("homes: nobody pulls", x.homes(), 0);
        x.manner(0, 3);
        // five to its left with the bow to 1, five above with the bow to 2
        Check.due("homes: ahead", x.homes(), 10);
        x.manner(0, 0);
        x.manner(2, 3);
        Check.due("homes: astern", x.homes(), 10);
        x.manner(2, 0);
        x.manner(3, 3);
        Check.due("homes: turning", x.homes(), 0);
        x.manner(0, 3);
        // it goes round by four CELLS: three ways lead to HOME by those within, one from beside it alone
        Check.due("homes: round", x.homes(), 4);
        x.put(0, 0);
        Check.due("homes: as the BARGE is counts not", x.homes(), 4);
        Check.due("homes: the STREAM alone", Check.laid("w8,2;h7,0;s1,9;").homes(), 28);
        Check.due("homes: the STREAM, to an edge", Check.laid("w8,2;h0,0;s1,9;").homes(), 0);
        Check.due("homes: all are HOMES", Check.laid("w2,2;h0,0;h0,1;h1,0;h1,1;").homes(), 0);
        Check.due("homes: no ROCK is a START", Check.laid("w3,2;h2,0;x0,0;x0,1;b1,0,1;s1,1;").homes(), 4);
    }

    private static void best() {
        EachSeesOne x = new EachSeesOne();
        int[] due = {73, 1, 0, 3, 3};
        for (int r = -1; r < 4; r++) {
            Check.due("best " + r, x.best(r), due[r + 1]);
        }
        for (int r = 0; r < 4; r++) {
            x.manner(r, 60);
        }
        x.put(14, 2);
        for (int r = -1; r < 4; r++) {
            Check.due("best, by other MANNERS now " + r, x.best(r), due[r + 1]);
        }
        for (int r = 0; r < 4; r++) {
            x.manner(r, due[r + 1]);
        }
        Check.due("best: by its MANNERS", x.homes(), 73);
        // in such a WATER the STREAM brings all HOME: the first of several is 0, 0, 0, 0
        EachSeesOne y = Check.laid("w8,2;h7,0;h7,1;s1,1;m0,7;");
        int[] none = {56, 0, 0, 0, 0};
        for (int r = -1; r < 4; r++) {
            Check.due("best: the first " + r, y.best(r), none[r + 1]);
        }
        y.wipe();
        Check.write(y, "w2,2;h1,1;");
        y.lay();
        int[] small = {12, 0, 1, 3, 1};
        for (int r = -1; r < 4; r++) {
            Check.due("best: laid anew " + r, y.best(r), small[r + 1]);
        }
        y.wipe();
        y.lay();
        Check.due("best: no lay, the same", y.best(-1), 12);
    }

    private static void mind() {
        EachSeesOne x = Check.laid("h5,5;m2,3;");
        Check.due("mind: nothing is more", x.mind(2, 0), 10);
        // by 2 he stands still in the open; by 1 he goes as by 3, till he SEES the edge astern
        Check.due("mind: the least", x.mind(2, 1), 1);
        Check.due("mind: ahead can only take way off", x.mind(0, 0), 10);
        Check.due("mind: so he pulls not", x.mind(0, 1), 0);
        Check.due("mind: nothing changes", x.manner(2, 3), 3);
        Check.due("mind: nothing changes", x.homes(), 10);
        EachSeesOne y = Check.laid("w6,5;x2,1;x4,3;x0,4;h5,4;h3,0;s2,3;v2;m0,1;m1,2;m2,0;m3,30;b0,0,1;");
        int[] most = {17, 14, 20, 11};
        int[] which = {44, 3, 18, 1};
        for (int r = 0; r < 4; r++) {
            Check.due("mind " + r, y.mind(r, 0), most[r]);
            Check.due("mind: the MANNER of " + r, y.mind(r, 1), which[r]);
            int was = y.manner(r, which[r]);
            Check.due("mind: by it", y.homes(), most[r]);
            y.manner(r, was);
        }
        Check.due("mind: none at all", Check.laid("w2,2;h0,0;h0,1;h1,0;h1,1;").mind(1, 0), 0);
        Check.due("mind: the first of all", Check.laid("w2,2;h0,0;h0,1;h1,0;h1,1;").mind(1, 1), 0);
    }

    private static void stranger() {
        EachSeesOne x = Check.laid("h5,5;m0,3;");
        Check.due("stranger: who pulls not", x.stranger(0, 0), 0);
        Check.due("stranger: the least", x.stranger(0, 1), 0);
        // astern in the open (1) or always (3) takes all way off
        Check.due("stranger: who pulls against", x.stranger(2, 0), 0);
        Check.due("stranger: the least who does", x.stranger(2, 1), 1);
        Check.due("stranger: nothing changes", x.homes(), 10);
        EachSeesOne y = Check.laid("w6,5;x2,1;x4,3;x0,4;h5,4;h3,0;s2,3;v2;m0,1;m1,2;m2,0;m3,30;b0,0,1;");
        int[] fewest = {5, 5, 2, 5};
        int[] which = {1, 2, 1, 2};
        for (int r = 0; r < 4; r++) {
            Check.due("stranger " + r, y.stranger(r, 0), fewest[r]);
            Check.due("stranger: the MANNER of " + r, y.stranger(r, 1), which[r]);
            for (int t = 0; t < 4; t++) {
                int was = y.manner(r, t);
                Check.due("stranger: no fewer by " + t, y.homes() >= fewest[r] ? 1 : 0, 1);
                Check.due("stranger: none ahead of it", t >= which[r] || y.homes() > fewest[r] ? 1 : 0, 1);
                y.manner(r, was);
            }
        }
        Check.due("stranger: all HOME by any", Check.laid("w8,2;h7,0;h7,1;s1,1;").stranger(1, 0), 56);
    }

    private static void seats() {
        EachSeesOne x = Check.laid("h5,5;m0,3;");
        int[] same = {10, 0, 1, 2, 3};
        for (int r = -1; r < 4; r++) {
            Check.due("seats: as they sit " + r, x.seats(r), same[r + 1]);
        }
        // who turns always does best ahead or astern: of these two his own stays on bench 0
        x = Check.laid("h5,5;m1,3;");
        int[] turned = {10, 0, 2, 1, 3};
        for (int r = -1; r < 4; r++) {
            Check.due("seats: the turner astern " + r, x.seats(r), turned[r + 1]);
        }
        x = Check.laid("h5,5;m3,3;");
        int[] last = {10, 0, 1, 3, 2};
        for (int r = -1; r < 4; r++) {
            Check.due("seats: astern comes first " + r, x.seats(r), last[r + 1]);
        }
        Check.due("seats: nothing changes", x.manner(3, 3), 3);
        Check.due("seats: nothing changes", x.homes(), 0);
        EachSeesOne y = Check.laid("w6,5;x2,1;x4,3;x0,4;h5,4;h3,0;s2,3;v2;m0,1;m1,2;m2,0;m3,30;b0,0,1;");
        int[] due = {15, 1, 2, 0, 3};
        int[] manners = {1, 2, 0, 30};
        for (int r = -1; r < 4; r++) {
            Check.due("seats " + r, y.seats(r), due[r + 1]);
        }
        for (int r = 0; r < 4; r++) {
            y.manner(r, manners[due[r + 1]]);
        }
        Check.due("seats: by them", y.homes(), 15);
        Check.due("seats: the last one who does", Check.laid("h5,5;m0,1;m1,1;m2,1;m3,3;").seats(-1), seatsMost());
        Check.due("seats: two pull alike", Check.laid("h5,5;m0,1;m1,1;m2,1;m3,1;").seats(3), 3);
    }

    /** HOMES by three of manner 1 and one of 3, he on that of four benches where it is most. */
    private static int seatsMost() {
        int most = 0;
        for (int r = 0; r < 4; r++) {
            EachSeesOne x = Check.laid("h5,5;m0,1;m1,1;m2,1;m3,1;m" + r + ",3;");
            most = Math.max(most, x.homes());
        }
        return most;
    }

    /** What was found in another WATER is forgotten, where no MANNERS are better than the first ones. */
    private static void forgets() {
        EachSeesOne x = new EachSeesOne();
        Check.due("mind: 1", x.mind(0, 1), 1);
        Check.due("best: 1", x.best(0), 1);
        x.manner(1, 3);
        Check.due("seats: 2", x.seats(1), 2);
        Check.write(x, "w2,2;h0,0;h0,1;h1,0;h1,1;");
        Check.due("no STARTS", x.lay(), 0);
        for (int r = 0; r < 4; r++) {
            Check.due("no STARTS: best " + r, x.best(r), 0);
            Check.due("no STARTS: mind " + r, x.mind(r, 1), 0);
            Check.due("no STARTS: stranger " + r, x.stranger(r, 1), 0);
        }
        for (int r = 0; r < 4; r++) {
            x.best(-1);
            x.mind(2, 0);
            Check.due("no STARTS: seats " + r, x.seats(r), r);
            Check.due("no STARTS: HOMES", x.seats(-1), 0);
        }
        x.wipe();
        Check.write(x, "h5,5;");
        x.lay();
        Check.due("best: 1 again", x.best(0), 1);
        Check.due("mind: 1 again", x.mind(0, 1), 1);
    }

    private static void dueHum(String name, EachSeesOne x, int... due) {
        for (int what = 0; what < 3; what++) {
            Check.due(name + ": hum " + what, x.hum(what), due[what]);
        }
    }

    private static void hum() {
        EachSeesOne x = Check.laid("h5,5;m0,3;");
        // to starboard in the last CELL of the way
        x.put(0, 1);
        dueHum("turned to starboard", x, 10, 3, 6);
        x.put(0, 2);
        dueHum("turned to port", x, 10, 1, 6);
        // HOME in 5 by MANNERS, but the hum must be done: one STROKE is lost by ROWER 0 first
        x.put(30, 1);
        dueHum("a STROKE lost", x, 6, 0, 1);
        x.put(31, 3);
        dueHum("none", x, -4, -4, -4);
        x.put(35, 1);
        dueHum("HOME already", x, -4, -4, -4);
        x = Check.laid("h1,0;");
        dueHum("one STROKE ahead", x, 1, 0, 1);
        x.put(2, 1);
        dueHum("one STROKE astern", x, 1, 2, 1);
        x.put(7, 2);
        dueHum("one STROKE astern, by another bow", x, 1, 2, 1);
        x.put(8, 1);
        dueHum("too far for one STROKE", x, -4, -4, -4);
        // it is a RUN: what the BARGE bears in mind, its t and that it has STRUCK do not count
        x = Check.laid("w8,2;h1,1;b1,0,1;m0,3;");
        x.put(0, 3);
        x.stroke();
        Check.due("struck", x.barge(4), 2);
        x.manner(0, 0);
        x.put(1, 2);
        x.manner(2, 3);
        x.stroke();
        Check.due("struck", x.barge(4), 2);
        x.manner(2, 0);
        dueHum("from a struck BARGE", x, 1, 0, 1);
        Check.due("hum: the BARGE stays", x.barge(3), 1);
    }

    private static void humEdges() {
        // what he truly does he bears in mind: by U 12 (4 and 8) he pulls if he bears 1, so one pull makes all the others
        EachSeesOne x = Check.laid("w8,2;h7,0;m0,16;");
        dueHum("pulls on", x, 7, 0, 1);
        // bearing what he SEES, one pull is one CELL alone
        x = Check.laid("w8,2;h7,0;m0,48;");
        dueHum("pulls once", x, -4, -4, -4);
        x = Check.laid("w8,2;h1,0;m0,48;");
        dueHum("pulls once", x, 1, 0, 1);
        // no MANNER below 4 bears anything
        x = Check.laid("w8,2;h2,0;m0,2;");
        dueHum("mindless", x, -4, -4, -4);
        // drifting, it could turn aside to HOME from STROKE 46 on alone
        x = Check.laid("w8,2;h5,1;x4,1;s1,9;b0,0,2;");
        dueHum("41 is too late", x, -4, -4, -4);
        x = Check.laid("w8,2;h4,1;x3,1;s1,9;b0,0,2;");
        dueHum("37", x, 37, 0, 37);
        x = Check.laid("w8,4;x4,2;h7,2;s1,8;m0,61;m1,0;m2,39;m3,56;");
        dueHum("40", x, 43, 3, 40);
        x = Check.laid("w4,8;h0,5;s2,8;m0,3;m1,48;m2,1;m3,2;");
        dueHum("HOME in 40 by 40", x, 40, 0, 40);
        x = Check.laid("w4,8;h1,5;s0,0;m0,59;m1,29;m2,17;m3,35;");
        dueHum("41 would bring it HOME in 41", x, -4, -4, -4);
        x = Check.laid("w6,7;h3,3;s1,9;m0,21;m1,47;m2,48;m3,58;");
        dueHum("41 would bring it HOME in 41", x, -4, -4, -4);
        x = Check.laid("w8,8;x1,7;x5,0;h7,3;s2,4;m0,11;m1,46;m2,10;m3,29;");
        dueHum("HOME in 99", x, 99, 0, 30);
    }

    private static void badNumbers() {
        EachSeesOne x = Check.laid("w4,4;h3,3;x1,1;");
        int[] badCells = {-1, 16, 5, 64, Integer.MAX_VALUE, Integer.MIN_VALUE};
        for (int c : badCells) {
            Check.due("run from " + c, x.run(c, 0, 0), -1);
            Check.due("seen from " + c, x.seen(c, 0, 0, 1), -1);
        }
        int[] badFour = {-1, 4, Integer.MAX_VALUE, Integer.MIN_VALUE};
        for (int b : badFour) {
            Check.due("run with bow " + b, x.run(0, b, 0), -1);
            Check.due("run what " + b, x.run(0, 0, b), -1);
            Check.due("seen with bow " + b, x.seen(0, b, 0, 1), -1);
            Check.due("seen by " + b, x.seen(0, 0, b, 1), -1);
            Check.due("mind of " + b, x.mind(b, 0), -1);
            Check.due("stranger of " + b, x.stranger(b, 0), -1);
            if (b != -1) {
                Check.due("best of " + b, x.best(b), -1);
                Check.due("seats of " + b, x.seats(b), -1);
            }
        }
        Check.due("best of -2", x.best(-2), -1);
        Check.due("seats of -2", x.seats(-2), -1);
        int[] badTwo = {-1, 2, Integer.MAX_VALUE, Integer.MIN_VALUE};
        for (int what : badTwo) {
            Check.due("mind what " + what, x.mind(0, what), -1);
            Check.due("stranger what " + what, x.stranger(0, what), -1);
        }
        int[] badThree = {-1, 3, Integer.MAX_VALUE, Integer.MIN_VALUE};
        for (int what : badThree) {
            Check.due("hum what " + what, x.hum(what), -1);
        }
        Check.due("hum: bad ahead of none", x.hum(3), -1);
    }
}
