import java.util.Random;

/** Long runs of mixed calls, each answer beside the slow model's; the seeds are fixed, so every run is the same. */
public final class ModelTest {
    // a step is of some 120 calls at most, and an object of 512
    private static final int RUNS = 900, CALLS = 390;

    private final Random dice;
    private final EachSeesOne x = new EachSeesOne();
    private final SlowModel y = new SlowModel();
    private int w = 6, h = 6;

    private ModelTest(long seed) {
        dice = new Random(seed);
    }

    public static void main(String[] args) {
        for (int run = 0; run < RUNS; run++) {
            ModelTest test = new ModelTest(run);
            int from = Check.asked();
            if (run % 4 != 0) {
                test.newText(run + ": ");
            }
            for (int i = 0; i < CALLS && Check.asked() - from < CALLS; i++) {
                test.call(run + "/" + i + ": ");
            }
        }
        Check.end();
    }

    private int upTo(int n) {
        return dice.nextInt(n + 1);
    }

    /** Mostly one that is told, now and then one beside it. */
    private int from(int least, int most) {
        int odd = dice.nextInt(60);
        if (odd == 0) {
            return least - 1;
        }
        if (odd == 1) {
            return most + 1;
        }
        if (odd == 2) {
            return dice.nextInt();
        }
        return least + dice.nextInt(most - least + 1);
    }

    private int aCell() {
        return from(0, w * h - 1);
    }

    private int aManner() {
        return dice.nextInt(3) == 0 ? upTo(3) : upTo(63);
    }

    private String number(int n) {
        return n < 10 && dice.nextInt(8) == 0 ? "0" + n : "" + n;
    }

    private String item() {
        switch (dice.nextInt(9)) {
            case 0: return "s" + number(upTo(3)) + "," + number(upTo(9)) + ";";
            case 1: return "v" + number(1 + upTo(6)) + ";";
            case 2: case 3: return "x" + number(upTo(7)) + "," + number(upTo(7)) + ";";
            case 4: return "h" + number(upTo(7)) + "," + number(upTo(7)) + ";";
            case 5: case 6: case 7: return "m" + number(upTo(3)) + "," + number(aManner()) + ";";
            default: return "b" + number(upTo(h - 1)) + "," + number(upTo(h - 1)) + "," + number(upTo(3)) + ";";
        }
    }

    /** A new text; some of them are spoilt by one byte. */
    private void newText(String name) {
        Check.due(name + "wipe", x.wipe(), y.wipe());
        int nw = 2 + upTo(6), nh = 2 + upTo(6);
        StringBuilder text = new StringBuilder("w" + nw + "," + nh + ";h" + upTo(nw - 1) + "," + upTo(nh - 1) + ";");
        for (int items = upTo(14); items > 0; items--) {
            text.append(item());
        }
        if (dice.nextInt(5) == 0) {
            text.setCharAt(upTo(text.length() - 1), ";,0159wxhsvmb a\u00ff".charAt(dice.nextInt(16)));
        }
        String all = text.toString();
        for (int at = 0; at < all.length();) {
            int n = Math.min(1 + upTo(7), all.length() - at);
            long v = dice.nextLong();
            for (int i = 0; i < n; i++) {
                v = v << 8 | all.charAt(at + i);
            }
            Check.due(name + "write", x.write(n, v), y.write(n, v));
            at += n;
        }
        Check.due(name + "fault of " + all, x.fault(), y.fault());
        int due = y.lay();
        Check.due(name + "lay of " + all, x.lay(), due);
        if (due >= 0) {
            w = nw;
            h = nh;
        }
    }

    /** A WAKE as it would be with one slip or none, some of them spoilt. */
    private void newWake(String name) {
        Check.due(name + "noWake", x.noWake(), y.noWake());
        int keptNow = y.keep();
        Check.due(name + "keep", x.keep(), keptNow);
        if (keptNow < 0) {
            return;
        }
        int[] cells = new int[1 + upTo(19)];
        int slipAt = dice.nextInt(cells.length + 1), rower = upTo(3);
        for (int i = 0; i < cells.length; i++) {
            int was = i == slipAt ? y.manner(rower, aManner()) : -1;
            y.stroke();
            if (was >= 0) {
                y.manner(rower, was);
            }
            cells[i] = y.barge(0);
        }
        Check.due(name + "back", x.back(), y.back());
        if (dice.nextInt(4) == 0) {
            cells[dice.nextInt(cells.length)] = aCell();
        }
        for (int c : cells) {
            Check.due(name + "wake", x.wake(c), y.wake(c));
        }
        Check.due(name + "wrong", x.wrong(), y.wrong());
    }

    private void look(String name) {
        for (int i = 0; i < 5; i++) {
            Check.due(name + "barge " + i, x.barge(i), y.barge(i));
            Check.due(name + "count " + i, x.count(i), y.count(i));
        }
    }

    private void call(String name) {
        int c = aCell(), bow = from(0, 3), r = from(0, 3), t = aManner(), what = from(0, 3);
        int small = from(0, 20), z = from(0, 9999), t99 = dice.nextBoolean() ? from(1, 99) : from(1, 9);
        switch (dice.nextInt(34)) {
            case 0: newText(name); break;
            case 1: newWake(name); break;
            case 2: Check.due(name + "wake", x.wake(c), y.wake(c)); break;
            case 3: Check.due(name + "wrong", x.wrong(), y.wrong()); break;
            case 4: Check.due(name + "keep", x.keep(), y.keep()); break;
            case 5: Check.due(name + "back", x.back(), y.back()); break;
            case 6: case 7: case 8: Check.due(name + "stroke", x.stroke(), y.stroke()); break;
            case 9: Check.due(name + "put", x.put(c, bow), y.put(c, bow)); break;
            case 10: case 11: Check.due(name + "manner", x.manner(r, t), y.manner(r, t)); break;
            case 12: case 13: Check.due(name + "run", x.run(c, bow, what), y.run(c, bow, what)); break;
            case 14: case 15: Check.due(name + "seen", x.seen(c, bow, r, t99), y.seen(c, bow, r, t99)); break;
            case 16: case 17: Check.due(name + "homes", x.homes(), y.homes()); break;
            case 18: rare(name, r); break;
            case 19: Check.due(name + "mind", x.mind(r, what), y.mind(r, what)); break;
            case 20: Check.due(name + "stranger", x.stranger(r, what), y.stranger(r, what)); break;
            case 21: Check.due(name + "seats", x.seats(r - 1), y.seats(r - 1)); break;
            case 22: case 23: Check.due(name + "hum", x.hum(what), y.hum(what)); break;
            case 24: Check.due(name + "knows", x.knows(c, bow, r, small), y.knows(c, bow, r, small)); break;
            case 25: Check.due(name + "knows", x.knows(c, bow, r, small / 4), y.knows(c, bow, r, small / 4)); break;
            case 26: Check.due(name + "allKnow", x.allKnow(c, bow, small), y.allKnow(c, bow, small)); break;
            case 27: Check.due(name + "allKnow", x.allKnow(c, bow, small / 4), y.allKnow(c, bow, small / 4)); break;
            case 28: Check.due(name + "fog", x.fog(z, c, bow, what & 1), y.fog(z, c, bow, what & 1)); break;
            case 29: Check.due(name + "fog", x.fog(z, c, bow, what), y.fog(z, c, bow, what)); break;
            case 30: Check.due(name + "sees", x.sees(c, bow, r), y.sees(c, bow, r)); break;
            case 31: Check.due(name + "cell", x.cell(c), y.cell(c)); break;
            case 32: Check.due(name + "barge", x.barge(what), y.barge(what)); break;
            default: Check.due(name + "count", x.count(what + 1), y.count(what + 1)); break;
        }
        look(name);
    }

    /** BEST is dear by the slow model, so large waters are seldom asked. */
    private void rare(String name, int r) {
        if (w * h < 16 || dice.nextInt(6) == 0) {
            Check.due(name + "best", x.best(r - 1), y.best(r - 1));
        }
    }
}
