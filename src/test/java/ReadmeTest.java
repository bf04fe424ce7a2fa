/** The calls that README.md shows, in its order, with the answers that it tells. */
public final class ReadmeTest {
    public static void main(String[] args) {
        EachSeesOne x = new EachSeesOne();
        Check.due("write", x.write(8, 0x77342C333B68332CL), 8);
        Check.due("write", x.write(2, 0x323BL), 10);
        Check.due("fault", x.fault(), -4);
        Check.due("lay", x.lay(), 44);
        Check.due("best", x.best(-1), 33);
        int[] manners = {1, 0, 3, 3};
        for (int r = 0; r < 4; r++) {
            Check.due("best of " + r, x.best(r), manners[r]);
            Check.due("manner of " + r, x.manner(r, x.best(r)), 0);
        }
        Check.due("homes", x.homes(), 33);
        int[] run = {1, 18, 11, 3};
        for (int what = 0; what < 4; what++) {
            Check.due("run " + what, x.run(0, 1, what), run[what]);
        }
        Check.due("keep", x.keep(), 1);
        Check.due("stroke", x.stroke(), 0);
        Check.due("bow", x.barge(1), 2);
        Check.due("back", x.back(), 0);
        Check.due("bow", x.barge(1), 1);
        Check.due("wake", x.wake(4), 1);
        Check.due("wrong", x.wrong(), 4);
        Check.due("put", x.put(12, 0), EachSeesOne.BAD);
        Check.end();
    }
}
