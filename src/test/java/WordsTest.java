/**
 * The dear calls beside what the document's words make of the plain ones: a RUN by put and stroke, HOMES by run, BEST, MIND, STRANGER
 * and SEATS by manner and homes, KNOWS by seen, HUM, WRONG and a FOG by a MANNER that is other for one STROKE.
 */
public final class WordsTest {
    /** A WATER and four MANNERS: with and without a STREAM, mindful and mindless, with several that are as good. */
    private static final String[] WATERS = {
        "h5,5;", "w5,4;h4,3;x2,1;v2;b1,1,1;", "w8,2;h7,1;s1,3;b0,0,2;", "w2,2;h1,1;", "w3,3;h1,1;s2,2;b0,0,1;", "w4,3;h0,0;h3,2;x1,1;s3,9;v3;b2,1,0;",
        "w6,2;h4,0;s1,6;b0,0,1;", "w2,8;h0,7;h1,0;x1,4;s0,5;v7;b0,3,2;", "w2,2;h0,0;h0,1;h1,0;h1,1;"};
    private static final int[][] CREWS = {
        {0, 0, 0, 0}, {3, 0, 0, 0}, {1, 2, 0, 3}, {3, 3, 3, 3}, {0, 1, 3, 1}, {1, 0, 3, 3}, {4, 19, 4, 19}, {35, 6, 49, 35}, {7, 42, 63, 20},
        {16, 48, 0, 30}, {33, 54, 34, 27}};

    private final String water;
    private final int[] manners;
    private final String name;

    private WordsTest(String water, int[] manners) {
        this.water = water;
        this.manners = manners;
        this.name = water + told(manners) + " ";
    }

    public static void main(String[] args) {
        for (String water : WATERS) {
            for (int[] manners : CREWS) {
                WordsTest test = new WordsTest(water, manners);
                test.runs();
                test.homes();
                test.mindAndStranger();
                test.seats();
                test.knows();
                test.hum();
                test.wrong();
                test.fog();
            }
            best(water);
        }
        Check.end();
    }

    private static String told(int[] manners) {
        StringBuilder s = new StringBuilder();
        for (int r = 0; r < 4; r++) {
            s.append('m').append(r).append(',').append(manners[r]).append(';');
        }
        return s.toString();
    }

    private EachSeesOne fresh() {
        return Check.laid(water + told(manners));
    }

    /** What the BARGE bears in mind, its t and whether it is HOME or STRUCK count in no RUN. */
    private EachSeesOne goneOn() {
        EachSeesOne x = fresh();
        strokes(x, 1 + manners[1] % 5);
        return x;
    }

    private static int homesBy(String water, int a, int b, int c, int d) {
        return Check.laid(water + told(new int[] {a, b, c, d})).homes();
    }

    // ---- RUNS by put and stroke

    private void runs() {
        int cells = fresh().count(0);
        for (int c = 0; c < cells; c++) {
            int bow = (c + manners[0]) % 4;
            EachSeesOne asked = goneOn();
            if (asked.cell(c) == 1) {
                continue;
            }
            EachSeesOne x = fresh();
            int end = x.put(c, bow);
            int t = 0;
            while (end == 0 && t < 99) {
                if (t % 9 == 0) {
                    int r = c % 4;
                    Check.due(name + "seen", asked.seen(c, bow, r, t + 1), x.sees(x.barge(0), x.barge(1), r));
                }
                end = x.stroke();
                t++;
            }
            int[] due = {end, t, x.barge(0), x.barge(1)};
            int what = c % 4;
            Check.due(name + "run " + what + " from " + c, asked.run(c, bow, what), due[what]);
            Check.due(name + "run 0 from " + c, asked.run(c, bow, 0), end);
            if (t < 99) {
                Check.due(name + "seen, not done", asked.seen(c, bow, 0, t + 1), -4);
            }
        }
    }

    // ---- HOMES by run

    private void homes() {
        EachSeesOne asked = goneOn();
        EachSeesOne x = fresh();
        int starts = 0;
        int homes = 0;
        for (int c = 0; c < asked.count(0); c++) {
            for (int bow = 0; bow < 4 && x.cell(c) == 0; bow++) {
                starts++;
                homes += x.run(c, bow, 0) == 1 ? 1 : 0;
            }
        }
        Check.due(name + "STARTS", asked.count(1), starts);
        Check.due(name + "lay", lays(), starts);
        Check.due(name + "HOMES", asked.homes(), homes);
    }

    private int lays() {
        EachSeesOne x = new EachSeesOne();
        Check.write(x, water);
        return x.lay();
    }

    // ---- by homes

    private void mindAndStranger() {
        EachSeesOne asked = goneOn();
        for (int r = 0; r < 4; r++) {
            EachSeesOne x = fresh();
            int most = -1, mostBy = -1, fewest = 999, fewestBy = -1;
            for (int t = 0; t < 64; t++) {
                x.manner(r, t);
                int homes = x.homes();
                if (homes > most) {
                    most = homes;
                    mostBy = t;
                }
                if (t < 4 && homes < fewest) {
                    fewest = homes;
                    fewestBy = t;
                }
            }
            Check.due(name + "MIND " + r, asked.mind(r, 0), most);
            Check.due(name + "MIND by " + r, asked.mind(r, 1), mostBy);
            Check.due(name + "STRANGER " + r, asked.stranger(r, 0), fewest);
            Check.due(name + "STRANGER by " + r, asked.stranger(r, 1), fewestBy);
        }
    }

    private void seats() {
        EachSeesOne asked = goneOn();
        int most = -1;
        int[] whose = new int[4];
        for (int code = 0; code < 256; code++) {
            int a = code / 64, b = code / 16 % 4, c = code / 4 % 4, d = code % 4;
            if (a == b || a == c || a == d || b == c || b == d || c == d) {
                continue;
            }
            int homes = homesBy(water, manners[a], manners[b], manners[c], manners[d]);
            if (homes > most) {
                most = homes;
                whose = new int[] {a, b, c, d};
            }
        }
        Check.due(name + "SEATS", asked.seats(-1), most);
        for (int r = 0; r < 4; r++) {
            Check.due(name + "SEATS " + r, asked.seats(r), whose[r]);
        }
    }

    private static void best(String water) {
        EachSeesOne asked = Check.laid(water);
        int most = -1, by = 0;
        for (int code = 0; code < 256; code++) {
            int homes = homesBy(water, code / 64, code / 16 % 4, code / 4 % 4, code % 4);
            if (homes > most) {
                most = homes;
                by = code;
            }
        }
        int[] due = {most, by / 64, by / 16 % 4, by / 4 % 4, by % 4};
        for (int r = -1; r < 4; r++) {
            Check.due(water + " BEST " + r, asked.best(r), due[r + 1]);
        }
    }

    // ---- KNOWS by seen

    private void knows() {
        EachSeesOne asked = goneOn();
        int cells = asked.count(0);
        int[] kinds = new int[cells];
        for (int c = 0; c < cells; c++) {
            kinds[c] = asked.cell(c);
        }
        int[] strokes = {1, 2, 5, 20};
        for (int i = 0; i < strokes.length; i++) {
            int t = strokes[i];
            int c = (7 * i + manners[0]) % cells;
            int bow = (i + manners[1]) % 4;
            if (kinds[c] == 1) {
                continue;
            }
            int[] alike = new int[5];
            String[] told = seenFrom(c, bow, t);
            for (int from = 0; from < cells; from++) {
                for (int side = 0; side < 4 && kinds[from] == 0; side++) {
                    String[] other = seenFrom(from, side, t);
                    boolean all = true;
                    for (int r = 0; r < 4; r++) {
                        boolean same = told[r].equals(other[r]);
                        alike[r] += same ? 1 : 0;
                        all &= same;
                    }
                    alike[4] += all ? 1 : 0;
                }
            }
            for (int r = 0; r < 4; r++) {
                Check.due(name + "KNOWS " + r + " in " + t, asked.knows(c, bow, r, t), alike[r]);
            }
            Check.due(name + "ALL KNOW in " + t, asked.allKnow(c, bow, t), alike[4]);
        }
    }

    private String[] seenFrom(int c, int bow, int strokes) {
        EachSeesOne x = fresh();
        String[] seen = new String[4];
        for (int r = 0; r < 4; r++) {
            StringBuilder s = new StringBuilder();
            for (int t = 1; t <= strokes; t++) {
                s.append(x.seen(c, bow, r, t)).append(' ');
            }
            seen[r] = s.toString();
        }
        return seen;
    }

    // ---- one who does, or SEES, the other thing: by a MANNER that is other for one STROKE

    /** A MANNER that pulls where t doesn't, and bears in mind by the same law. */
    private static int otherDoing(int t) {
        return t < 4 ? t ^ 3 : 4 + (lessThan48(t - 4) ^ 15);
    }

    /** A MANNER that does what t would do if he saw the other thing; it must bear in mind whether he pulls, or nothing. */
    private static int otherSeeing(int t) {
        int bits = t < 4 ? t : t - 4 & 15;
        int swapped = (bits & 5) << 1 | bits >> 1 & 5;
        return t < 4 ? swapped : 4 + (t - 4 & 48 | swapped);
    }

    /** U of 48 and more is like one of 32 to 47. */
    private static int lessThan48(int u) {
        return u >= 48 ? u - 16 : u;
    }

    private void hum() {
        EachSeesOne asked = goneOn();
        int c = asked.barge(0), bow = asked.barge(1);
        int[] found = {-4, -4, -4};
        for (int r = 0; r < 4; r++) {
            for (int t = 1; t <= 40; t++) {
                EachSeesOne x = fresh();
                x.put(c, bow);
                for (int i = 1; i <= 99 && x.barge(4) == 0; i++) {
                    x.manner(r, i == t ? otherDoing(manners[r]) : manners[r]);
                    x.stroke();
                }
                if (x.barge(4) == 1 && x.barge(3) >= t && (found[0] < 0 || x.barge(3) < found[0])) {
                    found = new int[] {x.barge(3), r, t};
                }
            }
        }
        for (int what = 0; what < 3; what++) {
            Check.due(name + "HUM " + what, asked.hum(what), found[what]);
        }
    }

    /** The BARGE has gone on for some STROKES; the WAKE is that of one who did the other thing once, or of nobody. */
    private void wrong() {
        for (int r = 0; r <= 4; r++) {
            int slipAt = 1 + (manners[0] + r) % 5;
            int ahead = manners[1] % 3;
            int[] wake = wakeBy(ahead, r, slipAt, 6);
            EachSeesOne asked = fresh();
            strokes(asked, ahead);
            for (int c : wake) {
                asked.wake(c);
            }
            int rowers = 0;
            boolean nobody = isWake(wake, wakeBy(ahead, 4, 0, wake.length));
            for (int q = 0; q < 4; q++) {
                for (int t = 1; t <= wake.length; t++) {
                    rowers |= isWake(wake, wakeBy(ahead, q, t, wake.length)) ? 1 << q : 0;
                }
            }
            Check.due(name + "WRONG, slip by " + r, asked.wrong(), nobody ? -4 : rowers);
        }
    }

    private static void strokes(EachSeesOne x, int strokes) {
        for (int i = 0; i < strokes; i++) {
            x.stroke();
        }
    }

    /** The CELLS behind each STROKE that is done, if r (4: nobody) does the other thing in that one. */
    private int[] wakeBy(int ahead, int r, int slipAt, int length) {
        EachSeesOne x = fresh();
        strokes(x, ahead);
        int[] wake = new int[length];
        int done = 0;
        for (int i = 1; i <= length && x.barge(4) == 0; i++) {
            if (r < 4) {
                x.manner(r, i == slipAt ? otherDoing(manners[r]) : manners[r]);
            }
            x.stroke();
            wake[done] = x.barge(0);
            done++;
        }
        return java.util.Arrays.copyOf(wake, done);
    }

    private static boolean isWake(int[] wake, int[] other) {
        return java.util.Arrays.equals(wake, other);
    }

    private void fog() {
        for (int r = 0; r < 4; r++) {
            if (manners[r] >= 36) {
                return;
            }
        }
        EachSeesOne asked = goneOn();
        int[] fogs = {0, 1, 5, 77, 1234, 9998, 9999};
        for (int i = 0; i < fogs.length; i++) {
            int c = (5 * i + manners[3]) % asked.count(0);
            if (asked.cell(c) != 1) {
                Check.due(name + "FOG " + fogs[i], asked.fog(fogs[i], c, i % 4, 0), endInFog(fogs[i], c, i % 4));
                int ten = 0;
                for (int k = 0; k < 10 && i > 3; k++) {
                    ten += endInFog((fogs[i] + k) % 10000, c, i % 4) == 1 ? 1 : 0;
                }
                if (i > 3) {
                    Check.due(name + "ten FOGS " + fogs[i], asked.fog(fogs[i], c, i % 4, 1), ten);
                }
            }
        }
    }

    private int endInFog(int z, int c, int bow) {
        EachSeesOne x = fresh();
        boolean[] isOther = new boolean[4];
        int end = x.put(c, bow);
        for (int t = 1; t <= 99 && end == 0; t++) {
            for (int r = 0; r < 4; r++) {
                long n = 7919L * z + 6151L * t + 3571L * r + 1;
                boolean other = n * n % 65521 % 10 == 0;
                if (other != isOther[r]) {
                    x.manner(r, other ? otherSeeing(manners[r]) : manners[r]);
                    isOther[r] = other;
                }
            }
            end = x.stroke();
        }
        return end;
    }
}
