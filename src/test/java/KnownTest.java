/** Promises 20 to 28: knows, allKnow, wake, noWake, wrong, fog, keep, back, count. */
public final class KnownTest {
    public static void main(String[] args) {
        knows();
        allKnow();
        wake();
        wrong();
        wrongGoesOn();
        fogByTheFirstStroke();
        fogBorneInMind();
        fogOfNinetyNine();
        fogBad();
        keep();
        back();
        count();
        Check.end();
    }

    private static void knows() {
        EachSeesOne x = new EachSeesOne();
        // nobody pulls: of 140 STARTS 22 have a bow to an edge, the corners two each, HOME none
        for (int r = 0; r < 4; r++) {
            for (int t = 1; t <= 20; t += 19) {
                Check.due("knows: open to " + r, x.knows(7, 0, r, t), 118);
                Check.due("knows: an edge to " + r, x.knows(0, (4 - r) % 4, r, t), 22);
            }
            Check.due("knows: nothing seen", x.knows(0, 0, r, 0), 140);
            Check.due("knows from HOME: nothing seen", x.knows(35, 0, r, 0), 140);
            Check.due("knows from HOME: not done alone", x.knows(35, 0, r, 1), 0);
        }
        // straight ahead till it strikes: what he SEES ahead tells how far it is, or that it was HOME
        x.manner(0, 3);
        int[] told = {0, 1, 2, 3, 4, 5};
        // as many STROKES to the edge are six CELLS of each of four SIDES; two rows of these end HOME, HOME is no START
        int[] alike = {20, 22, 22, 22, 22, 22};
        for (int i = 0; i < 6; i++) {
            Check.due("knows: 6 less " + i, x.knows(told[i], 1, 0, 20), alike[i]);
        }
        // to HOME it SEES no edge: it is like no other but its twin
        for (int i = 0; i < 5; i++) {
            Check.due("knows: to HOME", x.knows(30 + i, 1, 0, 20), 2);
        }
        // till STROKE t those who are farther look alike, too
        Check.due("knows: one STROKE", x.knows(0, 1, 0, 1), 118);
        Check.due("knows: two STROKES", x.knows(0, 1, 0, 2), 94);
        EachSeesOne y = Check.laid("w6,5;x2,1;x4,3;x0,4;h5,4;h3,0;s2,3;v2;m0,1;m1,2;m2,0;m3,30;b0,0,1;");
        int[] by8 = {2, 2, 3, 2};
        for (int r = 0; r < 4; r++) {
            Check.due("knows: 8 STROKES", y.knows(6, 1, r, 8), by8[r]);
        }
        int[] badT = {-1, 21, Integer.MAX_VALUE, Integer.MIN_VALUE};
        for (int t : badT) {
            Check.due("knows in " + t, y.knows(0, 0, 0, t), -1);
            Check.due("all know in " + t, y.allKnow(0, 0, t), -1);
        }
        int[] badFour = {-1, 4, Integer.MAX_VALUE, Integer.MIN_VALUE};
        for (int b : badFour) {
            Check.due("knows by bow " + b, y.knows(0, b, 0, 1), -1);
            Check.due("knows rower " + b, y.knows(0, 0, b, 1), -1);
            Check.due("all know by bow " + b, y.allKnow(0, b, 1), -1);
        }
        int[] badCells = {-1, 30, 8, Integer.MAX_VALUE, Integer.MIN_VALUE};
        for (int c : badCells) {
            Check.due("knows from " + c, y.knows(c, 0, 0, 1), -1);
            Check.due("all know from " + c, y.allKnow(c, 0, 1), -1);
        }
    }

    private static void allKnow() {
        EachSeesOne x = new EachSeesOne();
        Check.due("all know: nothing seen", x.allKnow(0, 1, 0), 140);
        Check.due("all know: a corner", x.allKnow(0, 1, 20), 3);
        // along the edge beside each of four SIDES, four CELLS
        Check.due("all know: an edge", x.allKnow(2, 1, 20), 16);
        Check.due("all know: the open", x.allKnow(14, 3, 20), 64);
        Check.due("all know from HOME", x.allKnow(35, 1, 1), 0);
        Check.due("all know from HOME", x.allKnow(35, 1, 0), 140);
        x.manner(0, 3);
        Check.due("all know: from corner to corner", x.allKnow(0, 1, 20), 2);
        Check.due("all know: five STROKES", x.allKnow(0, 1, 5), 3);
    }

    private static void wake() {
        EachSeesOne x = Check.laid("w4,3;h3,2;x1,1;");
        int[] bad = {-1, 12, 64, Integer.MAX_VALUE, Integer.MIN_VALUE};
        for (int c : bad) {
            Check.due("wake " + c, x.wake(c), -1);
        }
        Check.due("wake: a ROCK is a CELL", x.wake(5), 1);
        for (int i = 2; i <= 20; i++) {
            Check.due("wake", x.wake(11), i);
        }
        Check.due("wake full", x.wake(0), -3);
        Check.due("wake: bad ahead of full", x.wake(12), -1);
        Check.due("wake full: nothing", x.count(2), 20);
        Check.due("noWake", x.noWake(), 20);
        Check.due("noWake", x.noWake(), 0);
        Check.due("noWake", x.count(2), 0);
        Check.due("wake anew", x.wake(1), 1);
        x.stroke();
        x.put(0, 0);
        x.manner(0, 3);
        x.keep();
        x.back();
        Check.due("wake: stays when it goes on", x.count(2), 1);
    }

    private static void wakeOf(EachSeesOne x, int... cells) {
        x.noWake();
        for (int c : cells) {
            x.wake(c);
        }
    }

    private static void wrong() {
        EachSeesOne x = new EachSeesOne();
        x.put(14, 1);
        Check.due("wrong: no WAKE", x.wrong(), -4);
        wakeOf(x, 14, 14, 14);
        Check.due("wrong: so by MANNERS", x.wrong(), -4);
        wakeOf(x, 15, 15);
        Check.due("wrong: ahead", x.wrong(), 1);
        wakeOf(x, 14, 14, 13);
        Check.due("wrong: astern, in the last STROKE", x.wrong(), 4);
        wakeOf(x, 15, 14);
        Check.due("wrong: twice is not once", x.wrong(), 0);
        wakeOf(x, 8);
        Check.due("wrong: aside", x.wrong(), 0);
        x.manner(0, 3);
        wakeOf(x, 15, 16, 10, 4);
        Check.due("wrong: turned to port", x.wrong(), 2);
        wakeOf(x, 15, 21, 27);
        Check.due("wrong: turned to starboard", x.wrong(), 8);
        // who takes the way off it: he who pulls not, or he who pulls against
        wakeOf(x, 15, 15, 16);
        Check.due("wrong: two may be", x.wrong(), 5);
        wakeOf(x, 14, 15, 16);
        Check.due("wrong: two may be, at first", x.wrong(), 5);
        // it strikes in STROKE 4: a fifth is not done
        wakeOf(x, 15, 16, 17, 17);
        Check.due("wrong: struck in the last one", x.wrong(), -4);
        wakeOf(x, 15, 16, 17, 17, 17);
        // turned in STROKE 4 to port or starboard it goes on aside; staying it strikes in STROKE 5
        Check.due("wrong: struck later", x.wrong(), 5);
        wakeOf(x, 15, 16, 17, 17, 17, 17);
        Check.due("wrong: all must be done", x.wrong(), 0);
        int[] barge = {14, 1, 0, 0, 0};
        for (int i = 0; i < 5; i++) {
            Check.due("wrong: the BARGE stays " + i, x.barge(i), barge[i]);
        }
        wakeOf(x, 15, 16, 17, 11, 5);
        Check.due("wrong: turned at the edge", x.wrong(), 2);
        x.put(35, 0);
        Check.due("wrong: HOME, no STROKE is done", x.wrong(), 0);
        x.noWake();
        Check.due("wrong: HOME, no WAKE", x.wrong(), -4);
    }

    private static void wrongGoesOn() {
        // the BARGE goes on with what is borne in mind: by U 12 he pulls if he bears 1
        EachSeesOne x = Check.laid("w8,2;h7,1;m0,19;");
        x.stroke();
        x.manner(0, 16);
        wakeOf(x, 2, 3, 4);
        Check.due("wrong: goes on by what he bears", x.wrong(), -4);
        wakeOf(x, 1, 1, 1);
        Check.due("wrong: bears what he truly does", x.wrong(), 1);
        wakeOf(x, 1, 2, 3);
        Check.due("wrong: bears nothing of another's", x.wrong(), 4);
        // and with its t
        EachSeesOne y = Check.laid("w8,2;h7,1;s1,3;");
        y.stroke();
        wakeOf(y, 0, 1, 1, 1, 2);
        Check.due("wrong: t goes on", y.wrong(), -4);
        wakeOf(y, 0, 1, 2, 2, 3);
        Check.due("wrong: t goes on, a hum", y.wrong(), 1);
        y.put(0, 1);
        wakeOf(y, 0, 1, 2, 2, 2, 3);
        Check.due("wrong: t anew, a hum", y.wrong(), 1);
        wakeOf(y, 0, 0, 1, 1, 1, 2);
        Check.due("wrong: t anew", y.wrong(), -4);
        wakeOf(y, 1, 1, 2, 2, 2, 3, 3);
        Check.due("wrong: t anew, a hum", y.wrong(), 1);
        // struck before: none is done
        EachSeesOne z = Check.laid("h5,5;b5,0,1;m0,3;");
        z.stroke();
        wakeOf(z, 5);
        Check.due("wrong: struck before", z.wrong(), 0);
        z.put(5, 1);
        Check.due("wrong: struck in it", z.wrong(), -4);
        // by what each truly SEES
        EachSeesOne v = Check.laid("w8,2;h7,1;m0,1;m2,0;");
        wakeOf(v, 1, 2, 3, 4, 5, 6, 7, 7);
        Check.due("wrong: stops at the edge", v.wrong(), -4);
        wakeOf(v, 1, 2, 3, 4, 5, 6, 7, 7, 7, 7);
        Check.due("wrong: stays there", v.wrong(), -4);
        wakeOf(v, 1, 1, 2, 3, 4, 5, 6, 7, 7);
        Check.due("wrong: a STROKE lost on the way", v.wrong(), 5);
        v.manner(0, 2);
        wakeOf(v, 0, 0, 1, 1);
        Check.due("wrong: pulls at an edge alone", v.wrong(), 1);
        // twenty
        EachSeesOne w = Check.laid("h5,5;");
        wakeOf(w, 0, 0, 0, 0, 0, 0, 0, 0, 0, 0, 0, 0, 0, 0, 0, 0, 0, 0, 0, 1);
        Check.due("wrong: in the twentieth", w.wrong(), 1);
    }

    private static boolean isOther(int z, int t, int r) {
        long x = 7919L * z + 6151L * t + 3571L * r + 1;
        return x * x % 65521 % 10 == 0;
    }

    /** Row or not in STROKE 1, then the STREAM: HOME if he who looks to SIDE 1 SEES the other thing in it. */
    private static void fogByTheFirstStroke() {
        for (int r = 0; r < 4; r += 2) {
            String text = "w2,2;h1,0;s0,1;b0,1,1;m" + r + ",2;";
            EachSeesOne x = Check.laid(text);
            int bow = (1 + r) % 4;
            Check.due("no fog", x.run(2, bow, 0), 2);
            for (int z = 0; z < 400; z++) {
                x = z % 100 == 0 ? Check.laid(text) : x;
                Check.due("fog " + z, x.fog(z, 2, bow, 0), isOther(z, 1, r) ? 1 : 2);
                Check.due("fog " + (9999 - z), x.fog(9999 - z, 2, bow, 0), isOther(9999 - z, 1, r) ? 1 : 2);
                if (z % 7 == 0) {
                    int ten = 0;
                    for (int i = 0; i < 10; i++) {
                        ten += isOther((z + 9985 + i) % 10000, 1, r) ? 1 : 0;
                    }
                    Check.due("ten fogs", x.fog((z + 9985) % 10000, 2, bow, 1), ten);
                }
            }
        }
        EachSeesOne x = Check.laid("w2,2;h1,0;s0,1;b0,1,1;m0,2;");
        int[] home = {1, 2, 7, 29, 42, 43, 69, 70, 9947, 9965, 9985, 9986, 9993};
        for (int z : home) {
            Check.due("fog " + z, x.fog(z, 2, 1, 0), 1);
        }
        int[] struck = {0, 3, 4, 5, 6, 8, 9, 10, 11, 9994, 9995, 9996, 9997, 9998, 9999};
        for (int z : struck) {
            Check.due("fog " + z, x.fog(z, 2, 1, 0), 2);
        }
        Check.due("ten from 9990", x.fog(9990, 2, 1, 1), 1);
        Check.due("ten from 9995", x.fog(9995, 2, 1, 1), 2);
        Check.due("ten from 9998", x.fog(9998, 2, 1, 1), 3);
        Check.due("ten from 0", x.fog(0, 2, 1, 1), 3);
        Check.due("from HOME", x.fog(0, 1, 1, 0), 1);
        Check.due("ten from HOME", x.fog(0, 1, 1, 1), 10);
        EachSeesOne y = new EachSeesOne();
        Check.due("for ever in a fog", y.fog(0, 0, 1, 0), 0);
        Check.due("ten for ever in a fog", y.fog(0, 0, 1, 1), 0);
    }

    /** By U 12 and 32 he pulls one STROKE behind that in which he saw, or thought he saw, an edge. */
    private static void fogBorneInMind() {
        EachSeesOne x = Check.laid("w8,8;h5,3;m0,48;b4,3,1;");
        Check.due("no fog: no stroke", x.run(28, 1, 0), 0);
        for (int z = 0; z < 200; z++) {
            int first = 0;
            for (int t = 1; t <= 98 && first == 0; t++) {
                first = isOther(z, t, 0) ? t : 0;
            }
            Check.due("fog borne in mind " + z, x.fog(z, 28, 1, 0), first == 0 ? 0 : 1);
        }
        // the STREAM takes it away behind STROKE 2: it is HOME if it pulls in that one, by what was seen in the first
        EachSeesOne y = Check.laid("w2,2;h1,0;s0,2;b0,1,1;m0,48;");
        for (int z = 0; z < 400; z++) {
            if (isOther(z, 1, 0)) {
                Check.due("fog in STROKE 1, home in 2: " + z, y.fog(z, 2, 1, 0), 1);
            }
        }
    }

    /** A FOG is of 99 STROKES at most, too. */
    private static void fogOfNinetyNine() {
        EachSeesOne x = Check.laid("w3,8;h1,4;s3,0;m0,27;m1,24;m2,51;m3,49;");
        Check.due("STRUCK in STROKE 99", x.fog(4, 0, 1, 0), 2);
        x = Check.laid("w8,7;x7,3;x7,5;h1,3;s1,9;m0,1;m1,30;m2,57;m3,16;");
        Check.due("STRUCK in STROKE 99", x.fog(0, 0, 1, 0), 2);
        x = Check.laid("w6,7;x2,5;x3,5;x1,4;h5,3;s1,7;m0,51;m1,1;m2,39;m3,19;");
        Check.due("STRUCK in STROKE 100 alone", x.fog(0, 0, 1, 0), 0);
        x = Check.laid("w6,4;x2,2;x2,3;x5,1;h5,3;s0,0;m0,13;m1,28;m2,48;m3,19;");
        Check.due("STRUCK in STROKE 100 alone", x.fog(1, 0, 1, 0), 0);
    }

    private static void fogBad() {
        EachSeesOne x = Check.laid("w4,4;h3,3;x1,1;");
        int[] badZ = {-1, 10000, Integer.MAX_VALUE, Integer.MIN_VALUE};
        for (int z : badZ) {
            Check.due("fog " + z, x.fog(z, 0, 0, 0), -1);
        }
        int[] badCells = {-1, 16, 5, Integer.MAX_VALUE, Integer.MIN_VALUE};
        for (int c : badCells) {
            Check.due("fog from " + c, x.fog(0, c, 0, 0), -1);
        }
        int[] badFour = {-1, 4, Integer.MAX_VALUE, Integer.MIN_VALUE};
        for (int b : badFour) {
            Check.due("fog by bow " + b, x.fog(0, 0, b, 1), -1);
        }
        int[] badTwo = {-1, 2, Integer.MAX_VALUE, Integer.MIN_VALUE};
        for (int what : badTwo) {
            Check.due("fog what " + what, x.fog(0, 0, 0, what), -1);
        }
    }

    private static void keep() {
        EachSeesOne x = new EachSeesOne();
        Check.due("keep", x.keep(), 1);
        Check.due("keep", x.keep(), 2);
        Check.due("keep full", x.keep(), -3);
        Check.due("keep full: nothing", x.count(3), 2);
        Check.due("back", x.back(), 1);
        Check.due("keep again", x.keep(), 2);
        Check.due("keep full", x.keep(), -3);
    }

    private static void dueBarge(String name, EachSeesOne x, int... barge) {
        for (int i = 0; i < 5; i++) {
            Check.due(name + ": barge " + i, x.barge(i), barge[i]);
        }
    }

    private static void back() {
        EachSeesOne x = Check.laid("w8,2;h7,0;m0,19;m1,1;m1,4;");
        Check.due("back: none", x.back(), -2);
        x.stroke();
        x.wake(4);
        x.keep();
        for (int r = 0; r < 4; r++) {
            x.manner(r, 3);
        }
        x.put(0, 3);
        x.manner(3, 0);
        x.manner(1, 0);
        x.manner(2, 0);
        x.stroke();
        dueBarge("struck", x, 0, 3, 0, 1, 2);
        x.keep();
        x.put(7, 2);
        for (int r = 0; r < 4; r++) {
            x.manner(r, 50 + r);
        }
        x.wake(5);
        Check.due("back", x.back(), 1);
        dueBarge("back: struck", x, 0, 3, 0, 1, 2);
        Check.due("back: no STROKE", x.stroke(), -2);
        int[] manners = {3, 0, 0, 0};
        for (int r = 0; r < 4; r++) {
            Check.due("back: manner " + r, x.manner(r, 60), manners[r]);
        }
        Check.due("back", x.back(), 0);
        dueBarge("back: going", x, 1, 1, 1, 1, 0);
        int[] first = {19, 4, 0, 0};
        for (int r = 0; r < 4; r++) {
            Check.due("back: manner " + r, x.manner(r, first[r]), first[r]);
        }
        Check.due("back: the WAKE stays", x.count(2), 2);
        Check.due("back: none", x.back(), -2);
        dueBarge("back none: nothing", x, 1, 1, 1, 1, 0);
        x.manner(0, 16);
        x.stroke();
        dueBarge("goes on by what is borne in mind", x, 2, 1, 1, 2, 0);
        x.put(7, 1);
        x.keep();
        x.put(0, 1);
        x.stroke();
        x.back();
        dueBarge("back: HOME", x, 7, 1, 0, 0, 1);
        // what is done behind a keep changes nothing of what is kept
        x.put(3, 0);
        x.keep();
        x.keep();
        x.back();
        x.stroke();
        x.put(5, 1);
        x.back();
        dueBarge("back: kept as it was", x, 3, 0, 0, 0, 0);
    }

    private static void count() {
        EachSeesOne x = Check.laid("w5,3;h4,2;x1,1;x2,1;");
        x.wake(0);
        x.wake(0);
        x.keep();
        int[] due = {15, 48, 2, 1, 20};
        for (int i = 0; i < 5; i++) {
            Check.due("count " + i, x.count(i), due[i]);
        }
        int[] bad = {-1, 5, Integer.MAX_VALUE, Integer.MIN_VALUE};
        for (int what : bad) {
            Check.due("count " + what, x.count(what), -1);
        }
    }
}
