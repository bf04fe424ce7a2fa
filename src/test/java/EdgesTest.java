import java.util.regex.Matcher;
import java.util.regex.Pattern;

/** Each limit that a sentence of the document names: what lies at it, and one beyond it. The sentences stand above the tests. */
public final class EdgesTest {
    private static final String LETTERS = "wxhsvmb";
    private static final int[][] LEAST = {{2, 2}, {0, 0}, {0, 0}, {0, 0}, {1}, {0, 0}, {0, 0, 0}};
    private static final int[][] MOST = {{8, 8}, {7, 7}, {7, 7}, {3, 9}, {7}, {3, 63}, {7, 7, 3}};
    private static final Pattern ITEMS = Pattern.compile("(?:w0?[2-8],0?[2-8];|[xh]0?[0-7],0?[0-7];|s0?[0-3],0?[0-9];|v0?[1-7];"
            + "|m0?[0-3],(?:[0-5]?[0-9]|6[0-3]);|b0?[0-7],0?[0-7],0?[0-3];)*");

    public static void main(String[] args) {
        bytes();
        numbers();
        eachByte();
        waters();
        lastCounts();
        without();
        beyondTheWater();
        laid();
        far();
        stream();
        sides();
        manners();
        ninetyNine();
        twentyStrokes();
        twentyCells();
        forty();
        fogsGoRound();
        strokesWithoutEnd();
        twoKept();
        Check.end();
    }

    private static EachSeesOne fresh(String text) {
        EachSeesOne x = new EachSeesOne();
        Check.write(x, text);
        return x;
    }

    private static int layOf(String text) {
        return fresh(text).lay();
    }

    /** "400 at most"; "the lowest n bytes (1 to 8) of v, the highest of these first, come behind THE TEXT: how long it is". */
    private static void bytes() {
        for (int n = 1; n <= 8; n++) {
            // b00,0,0; in all, by its own lowest n bytes
            EachSeesOne x = fresh("h1,1;" + "b00,0,0;".substring(0, 8 - n));
            Check.due("write " + n, x.write(n, 0x6230302C302C303BL), 13);
            Check.due("write " + n + ": what was written", x.fault(), -4);
            // the lowest n bytes of v7;v7;v7 are ITEMS for 2, 5 and 8 of them, but for the last ;
            EachSeesOne y = fresh("h1,1;");
            Check.due("write " + n + " alone", y.write(n, 0x76373B76373B7637L), 5 + n);
            Check.due("write " + n + " alone: what was written", y.fault(), n == 5 ? 8 : n == 8 ? 11 : 5);
        }
        int[] signs = {0, 9, 10, 32, 127, 128, 200, 255};
        for (int sign : signs) {
            EachSeesOne x = fresh("v1;");
            Check.due("a byte of " + sign, x.write(1, sign), 4);
            Check.due("a byte of " + sign + " is no ITEM", x.fault(), 3);
            Check.due("a byte of " + sign, x.wipe(), 4);
        }
        for (int length = 392; length <= 400; length++) {
            for (int n = 1; n <= 8; n++) {
                EachSeesOne x = new EachSeesOne();
                for (int i = 0; i < length; i++) {
                    x.write(1, "v1;".charAt(i % 3));
                }
                Check.due(n + " behind " + length, x.write(n, 59), length + n > 400 ? -3 : length + n);
                Check.due(n + " behind " + length + ": count", x.count(4), length + n > 400 ? length : length + n);
                Check.due(n + " behind " + length + ": wipe", x.wipe(), length + n > 400 ? length : length + n);
            }
        }
    }

    private static String item(int kind, int place, String number) {
        StringBuilder s = new StringBuilder().append(LETTERS.charAt(kind));
        for (int i = 0; i < LEAST[kind].length; i++) {
            s.append(i > 0 ? "," : "").append(i == place ? number : "" + LEAST[kind][i]);
        }
        return s.append(';').toString();
    }

    /** "numbers (one or two figures)", and from which to which each one is. */
    private static void numbers() {
        for (int kind = 0; kind < LEAST.length; kind++) {
            for (int place = 0; place < LEAST[kind].length; place++) {
                for (int number = 0; number < 100; number++) {
                    boolean told = number >= LEAST[kind][place] && number <= MOST[kind][place];
                    dueFault(item(kind, place, "" + number), told);
                    if (number < 10) {
                        dueFault(item(kind, place, "0" + number), told);
                    }
                    dueFault(item(kind, place, "0" + (number < 10 ? "0" : "") + number), false);
                }
                dueFault(item(kind, place, ""), false);
                dueFault(item(kind, place, "-1"), false);
                dueFault(item(kind, place, "+1"), false);
                dueFault(item(kind, place, " 2"), false);
                dueFault(item(kind, place, "100"), false);
                dueFault(item(kind, place, "256"), false);
            }
        }
    }

    private static void dueFault(String item, boolean told) {
        EachSeesOne x = fresh("h0,7;w4,8;" + item);
        Check.due("fault of " + item, x.fault(), told ? -4 : 10);
        Check.due("fault behind others of " + item, fresh(item + "?").fault(), told ? item.length() : 0);
    }

    /** "a letter, numbers parted by , and ; (behind the last one, too)": each byte of each ITEM lost, other, or one put ahead. */
    private static void eachByte() {
        String[] items = {"w4,8;", "x07,7;", "h0,07;", "s3,9;", "v7;", "m3,63;", "m0,09;", "b3,7,03;"};
        for (String item : items) {
            String text = "v1;" + item + "h1,1;";
            for (int i = 0; i < text.length(); i++) {
                dueByWords(text.substring(0, i) + text.substring(i + 1));
                dueByWords(text.substring(0, i));
                for (char b = 0; b < 256; b++) {
                    dueByWords(text.substring(0, i) + b + text.substring(i + 1));
                    dueByWords(text.substring(0, i) + b + text.substring(i));
                }
            }
        }
    }

    private static EachSeesOne reader = new EachSeesOne();
    private static int read = 0;

    private static void dueByWords(String text) {
        if (read % 60 == 0) {
            reader = new EachSeesOne();
        }
        read++;
        reader.wipe();
        Check.write(reader, text);
        Matcher items = ITEMS.matcher(text);
        int end = items.lookingAt() ? items.end() : 0;
        Check.due("fault of " + text, reader.fault(), end == text.length() ? -4 : end);
        if (end < text.length()) {
            Check.due("lay of " + text, reader.lay(), -2);
        }
    }

    /** "the WATER is W by H CELLS (2 to 8 each)"; "CELLS are X and W times Y". */
    private static void waters() {
        for (int w = 2; w <= 8; w++) {
            for (int h = 2; h <= 8; h++) {
                int cells = w * h;
                String name = w + " by " + h;
                EachSeesOne x = fresh("w" + w + "," + h + ";h" + (w - 1) + "," + (h - 1) + ";x" + (w - 1) + ",0;b0," + (h - 1) + ",2;");
                Check.due(name + ": lay", x.lay(), 4 * (cells - 2));
                Check.due(name + ": CELLS", x.count(0), cells);
                Check.due(name + ": STARTS", x.count(1), 4 * (cells - 2));
                for (int c = 0; c < cells; c++) {
                    Check.due(name + ": cell " + c, x.cell(c), c == cells - 1 ? 2 : c == w - 1 ? 1 : 0);
                }
                Check.due(name + ": cell beyond", x.cell(cells), -1);
                Check.due(name + ": BARGE", x.barge(0), w * (h - 1));
                Check.due(name + ": bow", x.barge(1), 2);
                Check.due(name + ": put into the last", x.put(cells - 1, 3), 1);
                Check.due(name + ": put beyond", x.put(cells, 3), -1);
                Check.due(name + ": put into the ROCK", x.put(w - 1, 3), -1);
                String water = "w" + w + "," + h + ";";
                Check.due(name + ": HOME beyond W", layOf(water + "h" + Math.min(7, w) + ",0;"), w < 8 ? -2 : 4 * cells - 4);
                Check.due(name + ": HOME beyond H", layOf(water + "h0," + Math.min(7, h) + ";"), h < 8 ? -2 : 4 * cells - 4);
                Check.due(name + ": BARGE beyond W", layOf(water + "h1,1;b" + Math.min(7, w) + ",0,0;"), w < 8 ? -2 : 4 * cells - 4);
                Check.due(name + ": BARGE beyond H", layOf(water + "h1,1;b0," + Math.min(7, h) + ",0;"), h < 8 ? -2 : 4 * cells - 4);
            }
        }
    }

    /** "of several such the last one counts", of a MANNER "the last one of each". */
    private static void lastCounts() {
        Check.due("the last w", layOf("w8,8;h1,1;w3,2;"), 20);
        Check.due("the last w", layOf("w3,2;h1,1;w8,8;"), 252);
        int[][] sees = {{1, 3, 1}, {3, 1, 0}, {1, 2, 0}, {2, 3, 1}};
        for (int[] v : sees) {
            EachSeesOne x = fresh("v" + v[0] + ";h0,0;v" + v[1] + ";");
            x.lay();
            Check.due("the last v of " + v[0] + ", " + v[1], x.sees(21, 1, 0), v[2]);
        }
        EachSeesOne s = fresh("s1,1;h0,0;s2,2;b2,2,1;");
        s.lay();
        Check.due("the last s", s.stroke(), 0);
        Check.due("the last s: E", s.barge(0), 14);
        s.stroke();
        Check.due("the last s: S", s.barge(0), 20);
        EachSeesOne t = fresh("s2,2;s1,0;h0,0;b2,2,1;");
        t.lay();
        Check.due("the last s: none", t.run(14, 1, 1), 99);
        Check.due("the last s: none", t.run(14, 1, 2), 14);
        for (int r = 0; r < 4; r++) {
            int other = (r + 1) % 4;
            EachSeesOne m = fresh("m" + r + ",1;m" + other + ",7;h0,0;m" + r + ",63;m" + r + ",2;");
            m.lay();
            Check.due("the last m of " + r, m.manner(r, 0), 2);
            Check.due("the only m of " + other, m.manner(other, 0), 7);
            Check.due("no m of another", m.manner((r + 2) % 4, 0), 0);
            Check.due("no m of another", m.manner((r + 3) % 4, 0), 0);
        }
        EachSeesOne b = fresh("b7,7,3;h0,0;b1,2,3;b4,3,2;");
        b.lay();
        Check.due("the last b", b.barge(0), 22);
        Check.due("the last b", b.barge(1), 2);
        Check.due("the last b, beyond the WATER", layOf("b4,3,2;h0,0;b6,0,2;"), -2);
    }

    /** "6, 6 without", "0, 0 without", "1 without", "0 without", "0, 0, 1 without", whatever was laid before. */
    private static void without() {
        EachSeesOne x = fresh("w8,7;h1,1;x2,2;s1,1;v7;m0,63;m1,62;m2,61;m3,60;b3,3,2;");
        Check.due("lay", x.lay(), 216);
        x.wipe();
        Check.write(x, "h5,5;");
        Check.due("without: lay", x.lay(), 140);
        Check.due("without: the ROCK", x.cell(14), 0);
        Check.due("without: the HOME", x.cell(7), 0);
        Check.due("without: far", x.sees(4, 1, 0), 0);
        Check.due("without: far", x.sees(5, 1, 0), 1);
        Check.due("without: BARGE", x.barge(0), 0);
        Check.due("without: bow", x.barge(1), 1);
        for (int r = 0; r < 4; r++) {
            Check.due("without: MANNER of " + r, x.manner(r, 0), 0);
        }
        Check.due("without: STREAM", x.run(14, 0, 1), 99);
        Check.due("without: STREAM", x.run(14, 0, 2), 14);
        EachSeesOne y = fresh("h5,5;b2,3,0;");
        y.lay();
        Check.due("a bow of 0 told", y.barge(1), 0);
    }

    /** "those beyond the WATER count nowhere". */
    private static void beyondTheWater() {
        for (int w = 2; w <= 7; w++) {
            StringBuilder text = new StringBuilder("w" + w + ",3;h0,2;");
            for (int x = w; x < 8; x++) {
                text.append("x").append(x).append(",0;h").append(x).append(",1;x").append(x).append(",3;");
            }
            for (int y = 3; y < 8; y++) {
                text.append("x0,").append(y).append(";h1,").append(y).append(';');
            }
            EachSeesOne x = fresh(text.toString());
            Check.due("beyond " + w + ": lay", x.lay(), 4 * (3 * w - 1));
            for (int c = 0; c < 3 * w; c++) {
                Check.due("beyond " + w + ": cell " + c, x.cell(c), c == 2 * w ? 2 : 0);
            }
        }
    }

    /** "LAID is a TEXT without FAULT with a HOME of the WATER, not on a ROCK, the BARGE in a CELL of it that is no ROCK". */
    private static void laid() {
        Check.due("nothing told", layOf(""), -2);
        Check.due("no HOME", layOf("w2,2;"), -2);
        Check.due("a HOME", layOf("w2,2;h1,1;"), 12);
        Check.due("a HOME on a ROCK told ahead", layOf("w2,2;x1,1;h1,1;"), -2);
        Check.due("a HOME on a ROCK told behind", layOf("w2,2;h1,1;x1,1;"), -2);
        Check.due("one on a ROCK, one not", layOf("w2,2;h1,1;x1,1;h0,1;"), 8);
        Check.due("one beyond, one not", layOf("w2,2;h2,2;h0,1;"), 12);
        Check.due("the BARGE on a ROCK", layOf("w2,2;h1,1;x0,0;"), -2);
        Check.due("the BARGE beside a ROCK", layOf("w2,2;h1,1;x0,0;b0,1,0;"), 8);
        Check.due("the BARGE in HOME", layOf("w2,2;h1,1;b1,1,0;"), 12);
        Check.due("a FAULT behind", layOf("w2,2;h1,1;b1,1,4;"), -2);
        Check.due("every CELL HOME", layOf("w2,2;h1,1;h0,0;h0,1;h1,0;"), 0);
        Check.due("every CELL but HOME a ROCK", layOf("w2,2;h0,0;x0,1;x1,0;x1,1;"), 0);
        EachSeesOne x = fresh("h5,5;h4,4;x4,4;");
        x.lay();
        Check.due("a HOME on a ROCK is a ROCK", x.cell(28), 1);
    }

    /** "he SEES 1, if one of the V next CELLS there is a ROCK or out of the WATER, else 0"; "V CELLS far (1 to 7)". */
    private static void far() {
        for (int v = 1; v <= 7; v++) {
            EachSeesOne across = fresh("w8,2;h0,1;h7,1;v" + v + ";");
            EachSeesOne down = fresh("w2,8;h1,0;h1,7;v" + v + ";");
            EachSeesOne rock = fresh("w8,2;h0,1;x7,0;v" + v + ";");
            across.lay();
            down.lay();
            rock.lay();
            for (int i = 0; i < 8; i++) {
                for (int r = 0; r < 4; r++) {
                    String name = v + " far from " + i + " by " + r;
                    Check.due(name + " to SIDE 1", across.sees(i, (5 - r) % 4, r), 8 - i <= v ? 1 : 0);
                    Check.due(name + " to SIDE 3", across.sees(i, (7 - r) % 4, r), i + 1 <= v ? 1 : 0);
                    Check.due(name + " to SIDE 0", down.sees(2 * i, (4 - r) % 4, r), i + 1 <= v ? 1 : 0);
                    Check.due(name + " to SIDE 2", down.sees(2 * i, (6 - r) % 4, r), 8 - i <= v ? 1 : 0);
                    Check.due(name + " to a ROCK", rock.sees(i, (5 - r) % 4, r), (i < 7 ? 7 : 8) - i <= v ? 1 : 0);
                }
            }
        }
    }

    /** "the STREAM takes it to SIDE S (0 to 3), one CELL behind each E-th STROKE (0 to 9; E 0: none)". */
    private static void stream() {
        for (int e = 1; e <= 9; e++) {
            EachSeesOne x = fresh("w8,2;h0,1;s1," + e + ";");
            x.lay();
            for (int t = 1; t < 8 * e; t++) {
                Check.due("each " + e + ": STROKE " + t, x.stroke(), 0);
                Check.due("each " + e + ": behind " + t, x.barge(0), t / e);
            }
            Check.due("each " + e + ": out", x.stroke(), 2);
            Check.due("each " + e + ": stays", x.barge(0), 7);
            Check.due("each " + e + ": STROKES", x.barge(3), 8 * e);
            Check.due("each " + e + ": a RUN", x.run(0, 0, 1), 8 * e);
            Check.due("each " + e + ": STROKES to HOME", Check.laid("w8,2;h7,0;s1," + e + ";").run(0, 0, 1), 7 * e);
        }
        for (int s = 0; s < 4; s++) {
            EachSeesOne x = fresh("h0,0;s" + s + ",0;");
            x.lay();
            Check.due("none to " + s, x.run(14, 0, 0), 0);
            Check.due("none to " + s, x.run(14, 0, 1), 99);
            Check.due("none to " + s, x.run(14, 0, 2), 14);
        }
    }

    /** "0 Y less 1, 1 X and 1, 2 Y and 1, 3 X less 1"; "ROWER R looks to SIDE bow and R, modulo 4"; "modulo 4" when it turns. */
    private static void sides() {
        int[] next = {8, 15, 20, 13};
        for (int s = 0; s < 4; s++) {
            EachSeesOne x = fresh("h5,5;x" + (next[s] % 6) + "," + next[s] / 6 + ";");
            x.lay();
            for (int bow = 0; bow < 4; bow++) {
                for (int r = 0; r < 4; r++) {
                    Check.due("a ROCK to " + s + ", bow " + bow + ", " + r, x.sees(14, bow, r), (bow + r) % 4 == s ? 1 : 0);
                }
            }
            for (int r = 0; r < 4; r++) {
                x = Check.laid("h5,5;b2,2," + s + ";m" + r + ",3;");
                x.stroke();
                int bow = (s + (r == 3 ? 1 : r == 1 ? 3 : 0)) % 4;
                Check.due("bow " + s + ", pulled by " + r, x.barge(1), bow);
                Check.due("bow " + s + ", pulled by " + r, x.barge(0), r == 0 ? next[s] : r == 2 ? next[(s + 2) % 4] : 14);
            }
        }
    }

    /** "with T below 4 ..", "U being T less 4 .. bit (v and 2 m) of U modulo 16 .. (U 32 or more)": each MANNER of each ROWER. */
    private static void manners() {
        for (int r = 0; r < 4; r++) {
            for (int t = 0; t < 64; t++) {
                for (int c = 0; c < 30; c += 4) {
                    mannerFrom(r, t, c);
                }
            }
        }
    }

    private static void mannerFrom(int r, int t, int c) {
        EachSeesOne x = Check.laid("w6,5;h5,4;x3,1;");
        String name = "MANNER " + t + " of " + r + " from " + c;
        // ahead if he turns, turning if he goes: so what he SEES is other, too
        int other = (r + 1) % 4;
        int m = 0;
        x.put(c, (c + t) % 4);
        x.manner(r, t);
        for (int i = 0; i < 9 && x.barge(4) == 0; i++) {
            x.manner(other, i % 2 == 1 ? 3 : 0);
            int from = x.barge(0);
            int bow = x.barge(1);
            int v = x.sees(from, bow, r);
            int u = t - 4;
            int pulls = t < 4 ? t >> v & 1 : u % 16 >> v + 2 * m & 1;
            m = t < 4 ? 0 : u >= 32 ? v : pulls;
            x.stroke();
            Check.due(name + ": bears", x.barge(2) >> r & 1, m);
            if (r == 1 || r == 3) {
                Check.due(name + ": turns", x.barge(1), (bow + 4 + (r == 3 ? pulls : -pulls)) % 4);
            } else {
                Check.due(name + ": goes", x.barge(0) != from || x.barge(4) == 2 ? 1 : 0, pulls);
            }
        }
    }

    /** "A RUN .. is of 99 STROKES at most"; "STROKE t (1 to 99). NONE: it is not done". */
    private static void ninetyNine() {
        endsIn(99, "w5,5;h0,2;s1,9;v2;m0,11;m1,49;m2,19;m3,23;", 5, 2, 2);
        endsIn(99, "w6,5;h5,2;s1,9;m0,34;m1,9;m2,9;m3,44;", 20, 1, 1);
        endsIn(99, "w6,5;h5,2;m0,33;m1,21;m2,59;m3,51;", 4, 3, 1);
        endsIn(98, "w6,5;h5,4;s2,7;m0,58;m1,58;m2,27;m3,39;", 2, 2, 2);
        endsIn(98, "w6,5;h5,4;s2,7;m0,58;m1,58;m2,27;m3,39;", 16, 0, 2);
        EachSeesOne x = Check.laid("h5,5;");
        for (int r = 0; r < 4; r++) {
            Check.due("for ever: seen ahead of 99", x.seen(0, 1, r, 99), r == 0 || r == 1 ? 0 : 1);
            Check.due("for ever: seen ahead of 1", x.seen(0, 1, r, 1), r == 0 || r == 1 ? 0 : 1);
        }
        Check.due("for ever: STROKES", x.run(0, 1, 1), 99);
    }

    private static void endsIn(int strokes, String text, int c, int bow, int end) {
        EachSeesOne x = Check.laid(text);
        String name = "ends in " + strokes + ": " + text;
        Check.due(name, x.run(c, bow, 0), end);
        Check.due(name, x.run(c, bow, 1), strokes);
        for (int r = 0; r < 4; r++) {
            for (int t = 97; t <= 99; t++) {
                Check.due(name + ": seen in " + t, x.seen(c, bow, r, t) >= 0 ? 1 : 0, t <= strokes ? 1 : 0);
            }
            Check.due(name + ": seen in 100", x.seen(c, bow, r, 100), -1);
        }
        x.put(c, bow);
        for (int t = 1; t < strokes; t++) {
            Check.due(name + ": the BARGE", x.stroke(), 0);
        }
        Check.due(name + ": the BARGE", x.stroke(), end);
        Check.due(name + ": where", x.run(c, bow, 2), x.barge(0));
        Check.due(name + ": bow", x.run(c, bow, 3), x.barge(1));
    }

    /** "STROKES 1 to t (0 to 20)"; "a STROKE that is not done is like one that is not done alone". */
    private static void twentyStrokes() {
        EachSeesOne x = Check.laid("w4,5;h3,1;m0,46;m1,51;m2,29;m3,36;");
        int[] by20 = {2, 2, 1, 2};
        for (int r = 0; r < 4; r++) {
            Check.due("19 STROKES, " + r, x.knows(5, 3, r, 19), 3);
            Check.due("20 STROKES, " + r, x.knows(5, 3, r, 20), by20[r]);
            // it ends in STROKE 19: what tells it from two others is that a 20th is not done
            Check.due("ends in 19", x.run(14, 1, 1), 19);
            Check.due("19 STROKES, all done, " + r, x.knows(14, 1, r, 19), 3);
            Check.due("a 20th is not done, " + r, x.knows(14, 1, r, 20), 1);
            Check.due("0 STROKES, " + r, x.knows(14, 1, r, 0), 76);
            Check.due("21 STROKES, " + r, x.knows(14, 1, r, 21), -1);
        }
        Check.due("all, 19 STROKES", x.allKnow(5, 3, 19), 3);
        Check.due("all, 20 STROKES", x.allKnow(5, 3, 20), 1);
        Check.due("all, 19 STROKES, all done", x.allKnow(14, 1, 19), 3);
        Check.due("all, a 20th is not done", x.allKnow(14, 1, 20), 1);
        Check.due("all, 0 STROKES", x.allKnow(14, 1, 0), 76);
        Check.due("all, 21 STROKES", x.allKnow(14, 1, 21), -1);
        // HOME may be told, though it is no START: none is like it, as soon as a STROKE counts
        Check.due("from HOME, 0 STROKES", x.allKnow(7, 1, 0), 76);
        Check.due("from HOME, 1 STROKE", x.allKnow(7, 1, 1), 0);
    }

    /** "CELLS (20 at most)". */
    private static void twentyCells() {
        for (int cells = 0; cells <= 20; cells++) {
            EachSeesOne x = Check.laid("h5,5;b2,2,1;");
            for (int i = 1; i <= cells; i++) {
                Check.due("WAKE", x.wake(i == cells ? 15 : 14), i);
            }
            Check.due("in the last of " + cells, x.wrong(), cells == 0 ? -4 : 1);
            Check.due("WAKE of " + cells, x.count(2), cells);
            Check.due("one more than " + cells, x.wake(15), cells == 20 ? -3 : cells + 1);
            Check.due("WAKE behind it", x.noWake(), cells == 20 ? 20 : cells + 1);
            Check.due("no WAKE", x.noWake(), 0);
            Check.due("no WAKE: so by MANNERS", x.wrong(), -4);
        }
    }

    /** "in STROKE t (1 to 40; it must be done)", "of several the first by ROWER, then by t", "none (by none)". */
    private static void forty() {
        // drifting along a wall of ROCKS it can turn aside to HOME behind STROKE k E alone
        for (int k = 1; k <= 7; k++) {
            StringBuilder wall = new StringBuilder("w8,2;b0,0,2;h" + k + ",1;");
            for (int x = 0; x < k; x++) {
                wall.append('x').append(x).append(",1;");
            }
            for (int e = 2; e <= 9; e++) {
                EachSeesOne x = Check.laid(wall + "s1," + e + ";");
                int first = k * e + 1;
                String name = "HOME at " + k + ", each " + e;
                Check.due(name + ": STROKES", x.hum(0), first <= 40 ? first : -4);
                Check.due(name + ": ROWER", x.hum(1), first <= 40 ? 0 : -4);
                Check.due(name + ": t", x.hum(2), first <= 40 ? first : -4);
            }
        }
        EachSeesOne x = Check.laid("w2,2;h0,0;b1,0,0;");
        x.put(1, 1);
        Check.due("astern only", x.hum(1), 2);
        x.put(1, 3);
        Check.due("ahead only", x.hum(1), 0);
        EachSeesOne y = Check.laid("w3,2;h0,0;h2,0;b1,0,1;");
        Check.due("ahead or astern: the first ROWER", y.hum(1), 0);
        Check.due("ahead or astern: the first t", y.hum(2), 1);
        EachSeesOne z = Check.laid("w8,2;h7,0;m0,3;");
        z.put(5, 1);
        Check.due("HOME in 2: it must be done", z.hum(0), 3);
        Check.due("HOME in 2: ROWER", z.hum(1), 0);
        Check.due("HOME in 2: t", z.hum(2), 1);
    }

    /** "(0 to 9999)", "of ten (z, z and 1, .. modulo 10000) how many are HOME". */
    private static void fogsGoRound() {
        EachSeesOne x = Check.laid("w2,2;h1,0;s0,1;b0,1,1;m0,2;");
        int[] firsts = {0, 1, 9, 35, 9980, 9989, 9990, 9991, 9992, 9993, 9994, 9995, 9996, 9997, 9998, 9999};
        for (int z : firsts) {
            int ten = 0;
            for (int i = 0; i < 10; i++) {
                ten += x.fog((z + i) % 10000, 2, 1, 0) == 1 ? 1 : 0;
            }
            Check.due("ten from " + z, x.fog(z, 2, 1, 1), ten);
        }
        Check.due("fog 10000", x.fog(10000, 2, 1, 0), -1);
        Check.due("ten from 10000", x.fog(10000, 2, 1, 1), -1);
        Check.due("fog -1", x.fog(-1, 2, 1, 0), -1);
    }

    /** "t goes on": the BARGE has no 99. */
    private static void strokesWithoutEnd() {
        EachSeesOne x = Check.laid("w2,2;h1,1;s0,0;m3,3;");
        for (int t = 1; t <= 400; t++) {
            Check.due("STROKE " + t, x.stroke(), 0);
        }
        Check.due("400 STROKES", x.barge(3), 400);
        Check.due("400 STROKES: bow", x.barge(1), 1);
        Check.due("put: t begins anew", x.put(0, 3), 0);
        Check.due("put: t begins anew", x.barge(3), 0);
    }

    /** "2 at most"; "As KEPT last (it is KEPT no more then): how many are left. NO." */
    private static void twoKept() {
        EachSeesOne x = Check.laid("h5,5;");
        for (int i = 0; i < 3; i++) {
            Check.due("back: NO", x.back(), -2);
            x.put(1, 0);
            Check.due("keep", x.keep(), 1);
            x.put(2, 1);
            Check.due("keep", x.keep(), 2);
            x.put(3, 2);
            Check.due("keep: FULL", x.keep(), -3);
            Check.due("keep: FULL", x.count(3), 2);
            Check.due("back", x.back(), 1);
            Check.due("back: the last", x.barge(0), 2);
            Check.due("back: the last", x.barge(1), 1);
            Check.due("back", x.back(), 0);
            Check.due("back: the first", x.barge(0), 1);
            Check.due("back: the first", x.barge(1), 0);
        }
        x.keep();
        Check.write(x, "h5,5;");
        x.lay();
        Check.due("laid: nothing KEPT", x.back(), -2);
        Check.due("laid: nothing KEPT", x.keep(), 1);
    }
}
