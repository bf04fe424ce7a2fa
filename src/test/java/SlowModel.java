import java.util.ArrayList;
import java.util.Arrays;
import java.util.List;

/** The document said once more, as slowly and plainly as it goes: X and Y, one ROWER at a time, every RUN whole. */
final class SlowModel {
    private static final int[] DX = {0, 1, 0, -1};
    private static final int[] DY = {-1, 0, 1, 0};

    /** Where a BARGE is, and how it stands with it. */
    private static final class State {
        int x, y, bow, t, end;
        int[] m = new int[4];

        State copy() {
            State s = new State();
            s.x = x;
            s.y = y;
            s.bow = bow;
            s.t = t;
            s.end = end;
            s.m = m.clone();
            return s;
        }
    }

    /** Who SEES (fog) or does (slip) the other thing in a STROKE. */
    private interface Odd {
        boolean is(int r, int t);
    }

    private static final Odd NOBODY = (r, t) -> false;

    private String text = "";
    private int w, h, side, every, far;
    private boolean[][] rock, home;
    private int[] manners;
    private State barge;
    private final List<Integer> wake = new ArrayList<>();
    private final List<State> keptBarges = new ArrayList<>();
    private final List<int[]> keptManners = new ArrayList<>();

    SlowModel() {
        lay("h5,5;");
    }

    private static boolean in(int v, int least, int most) {
        return v >= least && v <= most;
    }

    int write(int n, long v) {
        if (!in(n, 1, 8)) {
            return -1;
        }
        if (text.length() + n > 400) {
            return -3;
        }
        for (int i = n - 1; i >= 0; i--) {
            text += (char) (v >> 8 * i & 255);
        }
        return text.length();
    }

    int wipe() {
        int was = text.length();
        text = "";
        return was;
    }

    private static boolean isItem(String item) {
        String shape = item.replaceAll("[0-9]+", "9");
        String known = " w9,9 x9,9 h9,9 s9,9 v9 m9,9 b9,9,9 ";
        if (shape.contains(" ") || !known.contains(" " + shape + " ")) {
            return false;
        }
        String[] told = item.substring(1).split(",");
        int[] a = new int[told.length];
        for (int i = 0; i < a.length; i++) {
            if (told[i].length() > 2) {
                return false;
            }
            a[i] = Integer.parseInt(told[i]);
        }
        switch (item.charAt(0)) {
            case 'w': return in(a[0], 2, 8) && in(a[1], 2, 8);
            case 'x': case 'h': return in(a[0], 0, 7) && in(a[1], 0, 7);
            case 's': return in(a[0], 0, 3) && in(a[1], 0, 9);
            case 'v': return in(a[0], 1, 7);
            case 'm': return in(a[0], 0, 3) && in(a[1], 0, 63);
            default: return in(a[0], 0, 7) && in(a[1], 0, 7) && in(a[2], 0, 3);
        }
    }

    int fault() {
        int from = 0;
        while (from < text.length()) {
            int end = text.indexOf(';', from);
            if (end < 0 || !isItem(text.substring(from, end))) {
                return from;
            }
            from = end + 1;
        }
        return -4;
    }

    int lay() {
        return fault() != -4 ? -2 : lay(text);
    }

    private int lay(String told) {
        int nw = 6, nh = 6, ns = 0, ne = 0, nv = 1, bx = 0, by = 0, bd = 1;
        boolean[][] nr = new boolean[8][8], nhome = new boolean[8][8];
        int[] nm = new int[4];
        for (String item : told.isEmpty() ? new String[0] : told.split(";")) {
            int[] a = Arrays.stream(item.substring(1).split(",")).mapToInt(Integer::parseInt).toArray();
            switch (item.charAt(0)) {
                case 'w': nw = a[0]; nh = a[1]; break;
                case 'x': nr[a[0]][a[1]] = true; break;
                case 'h': nhome[a[0]][a[1]] = true; break;
                case 's': ns = a[0]; ne = a[1]; break;
                case 'v': nv = a[0]; break;
                case 'm': nm[a[0]] = a[1]; break;
                default: bx = a[0]; by = a[1]; bd = a[2];
            }
        }
        boolean some = false;
        for (int i = 0; i < nw; i++) {
            for (int j = 0; j < nh; j++) {
                some |= nhome[i][j] && !nr[i][j];
            }
        }
        if (!some || bx >= nw || by >= nh || nr[bx][by]) {
            return -2;
        }
        w = nw;
        h = nh;
        side = ns;
        every = ne;
        far = nv;
        rock = nr;
        home = nhome;
        manners = nm;
        barge = at(bx + w * by, bd);
        wake.clear();
        keptBarges.clear();
        keptManners.clear();
        return starts().size();
    }

    private boolean isCell(int c) {
        return in(c, 0, w * h - 1);
    }

    private boolean shut(int x, int y) {
        return !in(x, 0, w - 1) || !in(y, 0, h - 1) || rock[x][y];
    }

    private boolean bad(int c, int bow) {
        return !isCell(c) || rock[c % w][c / w] || !in(bow, 0, 3);
    }

    private List<int[]> starts() {
        List<int[]> all = new ArrayList<>();
        for (int c = 0; c < w * h; c++) {
            for (int bow = 0; bow < 4; bow++) {
                if (!rock[c % w][c / w] && !home[c % w][c / w]) {
                    all.add(new int[] {c, bow});
                }
            }
        }
        return all;
    }

    int cell(int c) {
        if (!isCell(c)) {
            return -1;
        }
        return rock[c % w][c / w] ? 1 : home[c % w][c / w] ? 2 : 0;
    }

    private int look(int x, int y, int s) {
        for (int i = 1; i <= far; i++) {
            if (shut(x + i * DX[s], y + i * DY[s])) {
                return 1;
            }
        }
        return 0;
    }

    int sees(int c, int bow, int r) {
        if (!isCell(c) || !in(bow, 0, 3) || !in(r, 0, 3)) {
            return -1;
        }
        return look(c % w, c / w, (bow + r) % 4);
    }

    int manner(int r, int t) {
        if (!in(r, 0, 3) || !in(t, 0, 63)) {
            return -1;
        }
        int was = manners[r];
        manners[r] = t;
        return was;
    }

    private State at(int c, int bow) {
        State s = new State();
        s.x = c % w;
        s.y = c / w;
        s.bow = bow;
        s.end = home[s.x][s.y] ? 1 : 0;
        return s;
    }

    private void go(State s, int[] by, Odd fog, Odd slip) {
        s.t++;
        int[] pull = new int[4];
        for (int r = 0; r < 4; r++) {
            int v = look(s.x, s.y, (s.bow + r) % 4);
            if (fog.is(r, s.t)) {
                v = 1 - v;
            }
            int index = by[r] < 4 ? v : v + 2 * s.m[r];
            int rule = by[r] < 4 ? by[r] : (by[r] - 4) % 16;
            pull[r] = rule / (1 << index) % 2;
            if (slip.is(r, s.t)) {
                pull[r] = 1 - pull[r];
            }
            s.m[r] = by[r] < 4 ? 0 : by[r] - 4 >= 32 ? v : pull[r];
        }
        s.bow = (s.bow + pull[3] - pull[1] + 4) % 4;
        int go = pull[0] - pull[2];
        int nx = s.x + go * DX[s.bow], ny = s.y + go * DY[s.bow];
        if (go != 0 && shut(nx, ny)) {
            s.end = 2;
            return;
        }
        s.x = nx;
        s.y = ny;
        if (every != 0 && s.t % every == 0) {
            nx = s.x + DX[side];
            ny = s.y + DY[side];
            if (shut(nx, ny)) {
                s.end = 2;
                return;
            }
            s.x = nx;
            s.y = ny;
        }
        s.end = home[s.x][s.y] ? 1 : 0;
    }

    private State whole(int c, int bow, int[] by, Odd fog, Odd slip) {
        State s = at(c, bow);
        while (s.end == 0 && s.t < 99) {
            go(s, by, fog, slip);
        }
        return s;
    }

    int stroke() {
        if (barge.end != 0) {
            return -2;
        }
        go(barge, manners, NOBODY, NOBODY);
        return barge.end;
    }

    int put(int c, int bow) {
        if (bad(c, bow)) {
            return -1;
        }
        barge = at(c, bow);
        return barge.end;
    }

    int barge(int what) {
        int bits = 0;
        for (int r = 0; r < 4; r++) {
            bits += barge.m[r] << r;
        }
        int[] all = {barge.x + w * barge.y, barge.bow, bits, barge.t, barge.end};
        return in(what, 0, 4) ? all[what] : -1;
    }

    int run(int c, int bow, int what) {
        if (bad(c, bow) || !in(what, 0, 3)) {
            return -1;
        }
        State s = whole(c, bow, manners, NOBODY, NOBODY);
        return new int[] {s.end, s.t, s.x + w * s.y, s.bow}[what];
    }

    int seen(int c, int bow, int r, int t) {
        if (bad(c, bow) || !in(r, 0, 3) || !in(t, 1, 99)) {
            return -1;
        }
        int v = sights(c, bow, t)[r][t - 1];
        return v == 9 ? -4 : v;
    }

    /** What each SEES in STROKES 1 to t; 9: not done. */
    private int[][] sights(int c, int bow, int t) {
        int[][] seen = new int[4][t];
        State s = at(c, bow);
        for (int i = 0; i < t; i++) {
            for (int r = 0; r < 4; r++) {
                seen[r][i] = s.end != 0 ? 9 : look(s.x, s.y, (s.bow + r) % 4);
            }
            if (s.end == 0) {
                go(s, manners, NOBODY, NOBODY);
            }
        }
        return seen;
    }

    private int homesBy(int... by) {
        int n = 0;
        for (int[] from : starts()) {
            n += whole(from[0], from[1], by, NOBODY, NOBODY).end == 1 ? 1 : 0;
        }
        return n;
    }

    int homes() {
        return homesBy(manners);
    }

    int best(int r) {
        if (!in(r, -1, 3)) {
            return -1;
        }
        int most = -1;
        int[] by = null;
        for (int a = 0; a < 4; a++) {
            for (int b = 0; b < 4; b++) {
                for (int c = 0; c < 4; c++) {
                    for (int d = 0; d < 4; d++) {
                        int n = homesBy(a, b, c, d);
                        if (n > most) {
                            most = n;
                            by = new int[] {a, b, c, d};
                        }
                    }
                }
            }
        }
        return r < 0 ? most : by[r];
    }

    int mind(int r, int what) {
        if (!in(r, 0, 3) || !in(what, 0, 1)) {
            return -1;
        }
        int most = -1, which = 0;
        for (int t = 0; t < 64; t++) {
            int[] by = manners.clone();
            by[r] = t;
            int n = homesBy(by);
            if (n > most) {
                most = n;
                which = t;
            }
        }
        return what == 0 ? most : which;
    }

    int stranger(int r, int what) {
        if (!in(r, 0, 3) || !in(what, 0, 1)) {
            return -1;
        }
        int fewest = 9999, which = 0;
        for (int t = 0; t < 4; t++) {
            int[] by = manners.clone();
            by[r] = t;
            int n = homesBy(by);
            if (n < fewest) {
                fewest = n;
                which = t;
            }
        }
        return what == 0 ? fewest : which;
    }

    int seats(int r) {
        if (!in(r, -1, 3)) {
            return -1;
        }
        int most = -1;
        int[] whose = null;
        for (int a = 0; a < 4; a++) {
            for (int b = 0; b < 4; b++) {
                for (int c = 0; c < 4; c++) {
                    int d = 6 - a - b - c;
                    if (a == b || a == c || b == c || d < 0 || d > 3 || d == a || d == b || d == c) {
                        continue;
                    }
                    int n = homesBy(manners[a], manners[b], manners[c], manners[d]);
                    if (n > most) {
                        most = n;
                        whose = new int[] {a, b, c, d};
                    }
                }
            }
        }
        return r < 0 ? most : whose[r];
    }

    int hum(int what) {
        if (!in(what, 0, 2)) {
            return -1;
        }
        int[] found = null;
        for (int r = 0; r < 4; r++) {
            for (int t = 1; t <= 40; t++) {
                int who = r, when = t;
                State s = whole(barge.x + w * barge.y, barge.bow, manners, NOBODY, (q, u) -> q == who && u == when);
                if (s.t >= t && s.end == 1 && (found == null || s.t < found[0])) {
                    found = new int[] {s.t, r, t};
                }
            }
        }
        return found == null ? -4 : found[what];
    }

    int knows(int c, int bow, int r, int t) {
        if (bad(c, bow) || !in(r, 0, 3) || !in(t, 0, 20)) {
            return -1;
        }
        int[] told = sights(c, bow, t)[r];
        int n = 0;
        for (int[] from : starts()) {
            n += Arrays.equals(told, sights(from[0], from[1], t)[r]) ? 1 : 0;
        }
        return n;
    }

    int allKnow(int c, int bow, int t) {
        if (bad(c, bow) || !in(t, 0, 20)) {
            return -1;
        }
        int[][] told = sights(c, bow, t);
        int n = 0;
        for (int[] from : starts()) {
            n += Arrays.deepEquals(told, sights(from[0], from[1], t)) ? 1 : 0;
        }
        return n;
    }

    int wake(int c) {
        if (!isCell(c)) {
            return -1;
        }
        if (wake.size() == 20) {
            return -3;
        }
        wake.add(c);
        return wake.size();
    }

    int noWake() {
        int n = wake.size();
        wake.clear();
        return n;
    }

    private boolean isSo(Odd slip) {
        State s = barge.copy();
        for (int c : wake) {
            if (s.end != 0) {
                return false;
            }
            go(s, manners, NOBODY, slip);
            if (s.x + w * s.y != c) {
                return false;
            }
        }
        return true;
    }

    int wrong() {
        if (isSo(NOBODY)) {
            return -4;
        }
        int bits = 0;
        for (int r = 0; r < 4; r++) {
            for (int i = 1; i <= wake.size(); i++) {
                int who = r, when = barge.t + i;
                if (isSo((q, u) -> q == who && u == when)) {
                    bits |= 1 << r;
                }
            }
        }
        return bits;
    }

    private int fogEnd(int z, int c, int bow) {
        Odd fog = (r, t) -> {
            long x = 7919L * z + 6151L * t + 3571L * r + 1;
            return x * x % 65521 % 10 == 0;
        };
        return whole(c, bow, manners, fog, NOBODY).end;
    }

    int fog(int z, int c, int bow, int what) {
        if (!in(z, 0, 9999) || bad(c, bow) || !in(what, 0, 1)) {
            return -1;
        }
        if (what == 0) {
            return fogEnd(z, c, bow);
        }
        int n = 0;
        for (int i = 0; i < 10; i++) {
            n += fogEnd((z + i) % 10000, c, bow) == 1 ? 1 : 0;
        }
        return n;
    }

    int keep() {
        if (keptBarges.size() == 2) {
            return -3;
        }
        keptBarges.add(barge.copy());
        keptManners.add(manners.clone());
        return keptBarges.size();
    }

    int back() {
        int n = keptBarges.size() - 1;
        if (n < 0) {
            return -2;
        }
        barge = keptBarges.remove(n);
        manners = keptManners.remove(n);
        return n;
    }

    int count(int what) {
        int[] all = {w * h, starts().size(), wake.size(), keptBarges.size(), text.length()};
        return in(what, 0, 4) ? all[what] : -1;
    }
}
