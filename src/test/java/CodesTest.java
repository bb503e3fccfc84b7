/** Promises 17 to 21: follow, unfollow, codes, look, will. */
public final class CodesTest {
    public static void main(String[] args) {
        following();
        codesLeft();
        notSurely();
        looking();
        willOrWind();
        Check.end("CodesTest");
    }

    private static void following() {
        ShutterTown x = new ShutterTown();
        Check.due("follow(-1, 0)", x.follow(-1, 0, true), -2);
        Check.due("follow(4, 0)", x.follow(4, 0, true), -2);
        Check.due("follow(0, -1)", x.follow(0, -1, false), -2);
        Check.due("follow(0, 4)", x.follow(0, 4, false), -2);
        Check.due("follow(least, most)", x.follow(Integer.MIN_VALUE, Integer.MAX_VALUE, true), -2);
        Check.due("refused: none", x.count(7), 0);
        for (int many = 1; many <= 6; many++) {
            Check.due("follow", x.follow(3, 3, many % 2 == 0), many);
        }
        Check.due("a seventh", x.follow(3, 0, true), -4);
        Check.due("a seventh, outside", x.follow(3, 4, true), -2);
        Check.due("refused: six", x.count(7), 6);
        Check.due("refused: the codes stay", x.codes(false), 64);
        Check.due("unfollow()", x.unfollow(), 6);
        Check.due("unfollow() again", x.unfollow(), 0);
        Check.due("none", x.count(7), 0);
        Check.due("all codes", x.codes(false), 256);
        Check.due("one more can follow", x.follow(0, 0, true), 1);
    }

    private static void codesLeft() {
        ShutterTown x = new ShutterTown();
        Check.due("the first of all", x.codes(true), 0);
        x.follow(0, 3, true);
        Check.due("3...", x.codes(false), 64);
        Check.due("3... the first", x.codes(true), 3000);
        x.follow(3, 2, true);
        Check.due("3..2", x.codes(false), 16);
        Check.due("3..2 the first", x.codes(true), 3002);
        x.follow(1, 1, true);
        x.follow(2, 1, true);
        Check.due("3112", x.codes(false), 1);
        Check.due("3112 the first", x.codes(true), 3112);
        x.follow(2, 1, true);
        Check.due("told twice", x.codes(false), 1);
        x.follow(2, 2, true);
        Check.due("none", x.codes(false), 0);
        Check.due("none, the first", x.codes(true), -9);
        Check.due("the town's words stay", x.count(4), 123);
    }

    private static void notSurely() {
        ShutterTown x = new ShutterTown();
        x.follow(0, 1, false);
        Check.due("1 or 2", x.codes(false), 128);
        Check.due("1 or 2, the first", x.codes(true), 1000);
        x.follow(0, 2, false);
        Check.due("2", x.codes(false), 64);
        Check.due("2, the first", x.codes(true), 2000);
        x.follow(2, 3, false);
        Check.due("3 or 0", x.codes(false), 32);
        Check.due("3 or 0, the first", x.codes(true), 2000);
        x.follow(2, 2, false);
        Check.due("3", x.codes(false), 16);
        Check.due("3, the first", x.codes(true), 2030);
        x.follow(2, 0, false);
        Check.due("neither", x.codes(false), 0);
    }

    private static void looking() {
        ShutterTown x = new ShutterTown();
        Check.due("all alike", x.look(), 0);
        x.follow(0, 1, false);
        Check.due("0 has two words", x.look(), 1);
        x.follow(1, 1, true);
        Check.due("1 has one", x.look(), 2);
        x.follow(2, 1, true);
        Check.due("2 has one", x.look(), 3);
        x.follow(3, 1, false);
        Check.due("0 and 3 have two", x.look(), 0);
        x.follow(0, 1, true);
        Check.due("3 has two", x.look(), 3);
        x.follow(3, 2, true);
        Check.due("one code is left", x.look(), 0);
        x.unfollow();
        x.follow(0, 0, true);
        x.follow(0, 1, true);
        Check.due("no code is left", x.look(), -9);
        Check.due("nothing is changed", x.count(7), 2);
    }

    private static void willOrWind() {
        ShutterTown x = Check.town("S01231W00000W01001W10002W11003");
        long[] loose = {0, 2, 1, 1, 2, 0, 1, 1, 1, 1, 0, 2, 1, 1, 2, 0};
        for (int was = 0; was < 4; was++) {
            for (int is = 0; is < 4; is++) {
                boolean alike = was == is;
                String call = ", " + was + ", " + is + ")";
                Check.due("will(0" + call, x.will(0, was, is), alike ? -2 : 1);
                Check.due("will(1" + call, x.will(1, was, is), alike ? -2 : 1);
                Check.due("will(2" + call, x.will(2, was, is), alike ? -2 : loose[4 * was + is]);
                Check.due("will(3" + call, x.will(3, was, is), alike ? -2 : 0);
            }
        }
        Check.due("will(4, 0, 1)", x.will(4, 0, 1), -1);
        Check.due("will(-1, 9, 9)", x.will(-1, 9, 9), -1);
        Check.due("will(0, 4, 1)", x.will(0, 4, 1), -2);
        Check.due("will(0, 1, 4)", x.will(0, 1, 4), -2);
        Check.due("will(2, -1, 0)", x.will(2, -1, 0), -2);
        Check.due("will(3, 0, -1)", x.will(3, 0, -1), -2);
        Check.due("nothing is changed", x.window(2, 3) + x.count(6), 0);
    }
}
