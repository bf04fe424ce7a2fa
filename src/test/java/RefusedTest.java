/**
 * BAD, NO, NONE and FULL: which calls are refused, which of several comes first, and that nothing changes then.
 *
 * Beside each object that is refused stands a twin that did the same but was never asked: all that can be seen of both is
 * compared behind it.
 */
public final class RefusedTest {
    private static final int BAD = -1, NO = -2, FULL = -3, NONE = -4;
    private static final int LEAST = Integer.MIN_VALUE, MOST = Integer.MAX_VALUE;

    /** A call of the face with as many numbers as it takes. */
    private interface Call {
        int of(EachSeesOne x, int[] a);
    }

    /** What is told for a number of a call: from least to most, but for the one that is a ROCK's. */
    private record Told(int least, int most, int rock) {
        boolean is(int v) {
            return v >= least && v <= most && v != rock;
        }
    }

    /** How an object came to be as it is. */
    private interface Past {
        EachSeesOne again();
    }

    private static final int CELLS = 20, ROCK = 7;
    private static final Told CELL = new Told(0, CELLS - 1, MOST), BEGIN = new Told(0, CELLS - 1, ROCK);
    private static final Told FOUR = new Told(0, 3, MOST), TWO = new Told(0, 1, MOST);

    public static void main(String[] args) {
        Past[] all = {RefusedTest::going, RefusedTest::struck, RefusedTest::home, RefusedTest::full};
        String[] names = {"going", "struck", "home", "full"};
        for (int i = 0; i < all.length; i++) {
            twinsAreAlike(names[i], all[i]);
            numbersOfAll(names[i], all[i]);
            writes(names[i], all[i]);
            asksOnly(names[i], all[i]);
        }
        notAsThingsStand();
        thereIsNone();
        full401();
        badComesFirst();
        portraitsTellApart();
        Check.end();
    }

    // ---- four that are asked

    private static final String WATER = "w5,4;h4,3;h0,3;x2,1;s1,7;v2;m0,11;m1,13;m2,36;m3,14;b1,2,3;";

    private static EachSeesOne going() {
        EachSeesOne x = goneOn();
        wakeAsItIs(x, goneOn(), 4);
        return x;
    }

    private static EachSeesOne goneOn() {
        EachSeesOne x = Check.laid(WATER);
        x.stroke();
        x.keep();
        x.manner(3, 44);
        x.stroke();
        Check.due("going", x.barge(4), 0);
        return x;
    }

    private static EachSeesOne struck() {
        EachSeesOne x = Check.laid(WATER + "m0,3;m1,0;m2,0;m3,0;");
        x.put(0, 0);
        x.keep();
        Check.due("struck", x.stroke(), 2);
        x.wake(3);
        return x;
    }

    private static EachSeesOne home() {
        EachSeesOne x = Check.laid(WATER);
        Check.due("home", x.put(19, 2), 1);
        x.keep();
        return x;
    }

    /** THE TEXT of 400 bytes, a WAKE of 20 CELLS, two KEPT, and the BARGE gone on since. */
    private static EachSeesOne full() {
        EachSeesOne x = fullOfKept();
        wakeAsItIs(x, fullOfKept(), 20);
        while (x.count(4) <= 392) {
            x.write(8, 0x76313B76323B7633L);
        }
        while (x.count(4) < 400) {
            x.write(1, 0x3BL);
        }
        int[] counts = {20, 68, 20, 2, 400};
        for (int i = 0; i < counts.length; i++) {
            Check.due("full: count " + i, x.count(i), counts[i]);
        }
        return x;
    }

    private static EachSeesOne fullOfKept() {
        EachSeesOne x = Check.laid("w5,4;h4,3;h0,3;x2,1;m0,22;m1,53;m2,53;m3,55;b1,2,3;");
        x.keep();
        x.stroke();
        x.keep();
        x.stroke();
        return x;
    }

    /** The WAKE as it is by MANNERS from now on: wrong() is NONE, and no longer so if a CELL of it is lost, new or other. */
    private static void wakeAsItIs(EachSeesOne x, EachSeesOne ahead, int cells) {
        for (int i = 0; i < cells; i++) {
            Check.due("ahead of it", ahead.stroke(), 0);
            x.wake(ahead.barge(0));
        }
        Check.due("a WAKE as it is", x.wrong(), NONE);
    }

    // ---- all that can be seen of one

    private static String portrait(EachSeesOne x) {
        StringBuilder s = new StringBuilder();
        bargeOf(x, s);
        for (int i = 0; i < 5; i++) {
            s.append(" count ").append(x.count(i));
        }
        s.append(" fault ").append(x.fault()).append(" wrong ").append(x.wrong());
        for (int c = 0; c < CELLS; c++) {
            s.append(' ').append(x.cell(c)).append(x.sees(c, c % 4, 0)).append(x.sees(c, c % 4, 1));
            s.append('/').append(x.run(c, c % 4, 1)).append('/').append(x.run(c, (c + 1) % 4, 2));
        }
        s.append(" homes ").append(x.homes()).append(" best ").append(x.best(-1));
        s.append(" hum ").append(x.hum(0)).append(x.hum(1)).append(x.hum(2));
        for (int r = 0; r < 4; r++) {
            s.append(' ').append(x.best(r)).append(x.seats(r)).append(x.mind(r, 1)).append(x.stranger(r, 1));
        }
        s.append(" fog ").append(x.fog(9, 0, 0, 1)).append(" know ").append(x.allKnow(1, 1, 3));
        // from here on it is changed
        for (int i = 0; i < 3; i++) {
            s.append(" stroke ").append(x.stroke());
            bargeOf(x, s);
        }
        for (int i = 0; i < 3; i++) {
            mannersOf(x, s);
            s.append(" back ").append(x.back());
            bargeOf(x, s);
            s.append(" wrong ").append(x.wrong());
        }
        mannersOf(x, s);
        s.append(" no wake ").append(x.noWake()).append(" wake ").append(x.wake(0));
        s.append(" lay ").append(x.lay()).append(" count ").append(x.count(0)).append(' ').append(x.count(1));
        bargeOf(x, s);
        mannersOf(x, s);
        s.append(" write ").append(x.write(1, 0x76L)).append(" fault ").append(x.fault());
        s.append(" wipe ").append(x.wipe()).append(" wipe ").append(x.wipe());
        return s.toString();
    }

    private static void bargeOf(EachSeesOne x, StringBuilder s) {
        s.append(" barge");
        for (int i = 0; i < 5; i++) {
            s.append(' ').append(x.barge(i));
        }
    }

    private static void mannersOf(EachSeesOne x, StringBuilder s) {
        s.append(" manners");
        for (int r = 0; r < 4; r++) {
            s.append(' ').append(x.manner(r, 63));
        }
    }

    private static void dueAlike(String name, EachSeesOne x, String twin) {
        String now = portrait(x);
        if (!now.equals(twin)) {
            System.out.println(now + "\n" + twin);
        }
        Check.due(name + ": nothing changes", now.equals(twin) ? 1 : 0, 1);
    }

    private static void twinsAreAlike(String name, Past past) {
        dueAlike(name, past.again(), portrait(past.again()));
    }

    /** A portrait is of use only if it tells one that was changed in any way from one that was not. */
    private static void portraitsTellApart() {
        Call[] changes = {
            (x, a) -> x.write(1, 59), (x, a) -> x.wipe(), (x, a) -> x.lay(), (x, a) -> x.manner(a[0], 45), (x, a) -> x.stroke(),
            (x, a) -> x.put(0, 2), (x, a) -> x.wake(3), (x, a) -> x.noWake(), (x, a) -> x.keep(), (x, a) -> x.back()};
        String was = portrait(going());
        for (int i = 0; i < changes.length; i++) {
            for (int r = 0; r < 4; r++) {
                EachSeesOne x = going();
                changes[i].of(x, new int[] {r});
                Check.due("change " + i + " is seen", portrait(x).equals(was) ? 1 : 0, 0);
            }
        }
    }

    // ---- BAD

    private static void numbersOfAll(String name, Past past) {
        numbersOf(name + " cell", past, (x, a) -> x.cell(a[0]), CELL);
        numbersOf(name + " sees", past, (x, a) -> x.sees(a[0], a[1], a[2]), CELL, FOUR, FOUR);
        numbersOf(name + " manner", past, (x, a) -> x.manner(a[0], a[1]), FOUR, new Told(0, 63, MOST));
        numbersOf(name + " put", past, (x, a) -> x.put(a[0], a[1]), BEGIN, FOUR);
        numbersOf(name + " barge", past, (x, a) -> x.barge(a[0]), new Told(0, 4, MOST));
        numbersOf(name + " run", past, (x, a) -> x.run(a[0], a[1], a[2]), BEGIN, FOUR, FOUR);
        numbersOf(name + " seen", past, (x, a) -> x.seen(a[0], a[1], a[2], a[3]), BEGIN, FOUR, FOUR, new Told(1, 99, MOST));
        numbersOf(name + " best", past, (x, a) -> x.best(a[0]), new Told(-1, 3, MOST));
        numbersOf(name + " mind", past, (x, a) -> x.mind(a[0], a[1]), FOUR, TWO);
        numbersOf(name + " stranger", past, (x, a) -> x.stranger(a[0], a[1]), FOUR, TWO);
        numbersOf(name + " seats", past, (x, a) -> x.seats(a[0]), new Told(-1, 3, MOST));
        numbersOf(name + " hum", past, (x, a) -> x.hum(a[0]), new Told(0, 2, MOST));
        Told twenty = new Told(0, 20, MOST);
        numbersOf(name + " knows", past, (x, a) -> x.knows(a[0], a[1], a[2], a[3]), BEGIN, FOUR, FOUR, twenty);
        numbersOf(name + " allKnow", past, (x, a) -> x.allKnow(a[0], a[1], a[2]), BEGIN, FOUR, twenty);
        numbersOf(name + " wake", past, (x, a) -> x.wake(a[0]), CELL);
        Told fogs = new Told(0, 9999, MOST);
        numbersOf(name + " fog", past, (x, a) -> x.fog(a[0], a[1], a[2], a[3]), fogs, BEGIN, FOUR, TWO);
        numbersOf(name + " count", past, (x, a) -> x.count(a[0]), new Told(0, 4, MOST));
    }

    /** At each limit of each number, and one beyond it, the others as told; then all of them beyond. */
    private static void numbersOf(String name, Past past, Call call, Told... told) {
        EachSeesOne refused = past.again();
        int[] a = new int[told.length];
        for (int i = 0; i < told.length; i++) {
            int[] tried = {told[i].least - 1, told[i].most + 1, LEAST, MOST, ROCK, CELLS, 64, 256 + told[i].most, told[i].least, told[i].most};
            for (int v : tried) {
                fillWithTold(a, told);
                a[i] = v;
                String asked = name + " number " + i + " is " + v;
                if (!told[i].is(v)) {
                    Check.due(asked, call.of(refused, a), BAD);
                } else {
                    Check.due(asked, call.of(past.again(), a) == BAD ? 1 : 0, 0);
                }
            }
        }
        for (int i = 0; i < told.length; i++) {
            a[i] = told[i].most + 1;
        }
        Check.due(name + ": all beyond", call.of(refused, a), BAD);
        dueAlike(name, refused, portrait(past.again()));
    }

    private static void fillWithTold(int[] a, Told[] told) {
        for (int i = 0; i < a.length; i++) {
            a[i] = told[i].most;
        }
    }

    private static void writes(String name, Past past) {
        EachSeesOne x = past.again();
        int[] bad = {0, 9, -1, -8, 256 + 1, LEAST, MOST};
        for (int n : bad) {
            Check.due(name + ": write " + n, x.write(n, 0x76313BL), BAD);
        }
        dueAlike(name + ": write", x, portrait(past.again()));
    }

    /** Calls that only ask change nothing, either. */
    private static void asksOnly(String name, Past past) {
        Call[] asks = {
            (x, a) -> x.fault(), (x, a) -> x.cell(a[0]), (x, a) -> x.sees(a[0], 2, 1), (x, a) -> x.barge(a[0]), (x, a) -> x.count(a[0]),
            (x, a) -> x.run(a[0], 3, 2), (x, a) -> x.seen(a[0], 1, 2, 9), (x, a) -> x.homes(), (x, a) -> x.best(a[0]),
            (x, a) -> x.mind(a[0], 1), (x, a) -> x.stranger(a[0], 1), (x, a) -> x.seats(a[0]), (x, a) -> x.hum(a[0]),
            (x, a) -> x.knows(a[0], 1, 2, 20), (x, a) -> x.allKnow(a[0], 2, 20), (x, a) -> x.wrong(), (x, a) -> x.fog(77, a[0], 0, 1)};
        EachSeesOne all = past.again();
        String twin = portrait(past.again());
        for (int i = 0; i < asks.length; i++) {
            EachSeesOne one = past.again();
            for (int v = 0; v < 4; v++) {
                asks[i].of(one, new int[] {v});
                asks[i].of(all, new int[] {v});
            }
            dueAlike(name + ": asked " + i, one, twin);
        }
        dueAlike(name + ": asked all", all, twin);
    }

    // ---- NO

    private static void notAsThingsStand() {
        EachSeesOne x = struck();
        EachSeesOne y = home();
        for (int i = 0; i < 3; i++) {
            Check.due("stroke when struck", x.stroke(), NO);
            Check.due("stroke when home", y.stroke(), NO);
        }
        dueAlike("stroke when struck", x, portrait(struck()));
        dueAlike("stroke when home", y, portrait(home()));
        EachSeesOne z = new EachSeesOne();
        z.manner(0, 3);
        z.stroke();
        Check.due("back: nothing is kept", z.back(), NO);
        Check.due("back: nothing changes", z.barge(0), 1);
        Check.due("back: nothing changes", z.manner(0, 3), 3);
        Check.due("back: nothing changes", z.count(3), 0);
        Check.due("lay: no HOME told", z.lay(), NO);
        Check.due("lay: nothing changes", z.barge(0), 1);
        String[] no = {
            "", "v1;", "w5,4;", "h5,0;w5,4;", "w5,4;h0,4;", "x1,1;h1,1;", "h1,1;x0,0;", "w2,2;h1,1;b2,0,0;", "w2,2;h1,1;b0,2,0;", "h1,1;v0;",
            "h1,1;v8;", "h1,1;v1", "h1,1", "h1,1;w8,8;x7,7;b7,7,1;", "h1,1;m0,64;b3,3,3;m3,3;", "z", "h1,1;\u00e9"};
        for (String text : no) {
            layIsNo(text);
        }
    }

    private static void layIsNo(String text) {
        EachSeesOne x = going();
        EachSeesOne twin = going();
        x.wipe();
        twin.wipe();
        Check.write(x, text);
        Check.write(twin, text);
        x.best(0);
        Check.due("lay of " + text, x.lay(), NO);
        Check.due("lay again of " + text, x.lay(), NO);
        dueAlike("lay of " + text, x, portrait(twin));
    }

    // ---- NONE

    private static void thereIsNone() {
        EachSeesOne x = home();
        Check.due("fault: none", x.fault(), NONE);
        Check.due("wrong: none", x.wrong(), NONE);
        for (int what = 0; what < 3; what++) {
            Check.due("hum at HOME: none", x.hum(what), NONE);
        }
        Check.due("seen at HOME: none", x.seen(19, 0, 0, 1), NONE);
        dueAlike("none", x, portrait(home()));
        EachSeesOne y = going();
        y.wrong();
        dueAlike("wrong", y, portrait(going()));
    }

    // ---- FULL

    private static void full401() {
        EachSeesOne x = full();
        for (int n = 1; n <= 8; n++) {
            Check.due("write " + n + " when full", x.write(n, 0x76313BL), FULL);
        }
        for (int c = 0; c < CELLS; c++) {
            Check.due("wake when full", x.wake(c), FULL);
        }
        Check.due("keep when full", x.keep(), FULL);
        Check.due("keep when full", x.keep(), FULL);
        dueAlike("full", x, portrait(full()));
        // one byte too many: not even those that have room are written
        for (int n = 1; n <= 8; n++) {
            EachSeesOne y = textOf(400 - n);
            EachSeesOne z = textOf(401 - n);
            Check.due("write, 400 then", y.write(n, 0x76313BL), 400);
            Check.due("write, 401 then", z.write(n, 0x76313BL), FULL);
            Check.due("write, 401 then: nothing changes", z.count(4), 401 - n);
            dueAlike("write, 401 then", z, portrait(textOf(401 - n)));
        }
    }

    private static EachSeesOne textOf(int length) {
        EachSeesOne x = Check.laid(WATER);
        x.wipe();
        StringBuilder text = new StringBuilder();
        while (text.length() < length) {
            text.append("v1;");
        }
        Check.write(x, text.substring(0, length));
        Check.due("a text of " + length, x.count(4), length);
        return x;
    }

    /** BAD, NO, NONE, FULL in this order. */
    private static void badComesFirst() {
        EachSeesOne x = full();
        Check.due("write: BAD ahead of FULL", x.write(0, 59), BAD);
        Check.due("write: BAD ahead of FULL", x.write(9, 59), BAD);
        Check.due("wake: BAD ahead of FULL", x.wake(CELLS), BAD);
        Check.due("wake: BAD ahead of FULL", x.wake(-1), BAD);
        EachSeesOne y = home();
        Check.due("hum: BAD ahead of NONE", y.hum(3), BAD);
        Check.due("hum: BAD ahead of NONE", y.hum(-1), BAD);
        Check.due("seen: BAD ahead of NONE", y.seen(19, 0, 0, 100), BAD);
        Check.due("seen: BAD ahead of NONE", y.seen(19, 0, 0, 0), BAD);
        Check.due("seen: BAD ahead of NONE", y.seen(19, 0, 4, 1), BAD);
        Check.due("seen: BAD ahead of NONE", y.seen(19, 4, 0, 1), BAD);
        dueAlike("BAD ahead of FULL", x, portrait(full()));
        dueAlike("BAD ahead of NONE", y, portrait(home()));
    }
}
