/** Sentence by sentence the edges of promises 17 to 21 and of what part 3 of the terms says of CODES and wind. */
public final class EdgesOfCodesTest {
    private static final int NONE = ShutterTown.NONE;
    private static final int UNKNOWN = ShutterTown.UNKNOWN;
    private static final int OUTSIDE = ShutterTown.OUTSIDE;
    private static final int FULL = ShutterTown.FULL;

    public static void main(String[] args) {
        noneAtFirst();
        followRefused();
        sixAtMost();
        nothingFollowed();
        surelyOneWord();
        zeroBehindThree();
        noCodeIsLeft();
        theFirstAsFigures();
        lookOfAll();
        lookLeastOfLike();
        lookOfNone();
        willByKinds();
        willRefused();
        Check.end("EdgesOfCodesTest");
    }

    private static void noneAtFirst() {
        Check.says("6 such at most, none at first.");
        ShutterTown x = new ShutterTown();
        Check.due("count(7)", x.count(7), 0);
        Check.due("codes(false)", x.codes(false), 256);
        Check.due("codes(true)", x.codes(true), 0);
        Check.due("unfollow()", x.unfollow(), 0);
    }

    private static void followRefused() {
        Check.says("FOLLOWED: how many there are. OUTSIDE: s, w; FULL: 6.");
        int[] outside = {-1, 4, 5, Integer.MIN_VALUE, Integer.MAX_VALUE};
        ShutterTown x = new ShutterTown();
        for (int number : outside) {
            Check.due("follow(" + number + ", 0, true)", x.follow(number, 0, true), OUTSIDE);
            Check.due("follow(" + number + ", 3, false)", x.follow(number, 3, false), OUTSIDE);
            Check.due("follow(0, " + number + ", true)", x.follow(0, number, true), OUTSIDE);
            Check.due("follow(3, " + number + ", false)", x.follow(3, number, false), OUTSIDE);
            Check.due("follow of both", x.follow(number, number, true), OUTSIDE);
        }
        Check.due("count(7)", x.count(7), 0);
        Check.due("codes(false)", x.codes(false), 256);
        for (int s = 0; s <= 3; s++) {
            for (int w = 0; w <= 3; w++) {
                Check.due("follow(" + s + ", " + w + ")", new ShutterTown().follow(s, w, w % 2 == 0), 1);
            }
        }
    }

    private static void sixAtMost() {
        Check.says("OUTSIDE: s, w; FULL: 6.");
        ShutterTown x = new ShutterTown();
        for (int many = 1; many <= 6; many++) {
            Check.due("follow", x.follow(0, 0, false), many);
        }
        Check.due("a seventh, surely", x.follow(0, 0, true), FULL);
        Check.due("a seventh, not surely", x.follow(3, 3, false), FULL);
        Check.due("outside and full: s", x.follow(4, 0, true), OUTSIDE);
        Check.due("outside and full: w", x.follow(0, -1, true), OUTSIDE);
        Check.due("six", x.count(7), 6);
        Check.due("CODES of the six", x.codes(false), 128);
        Check.due("unfollow()", x.unfollow(), 6);
        Check.due("there is room again", x.follow(0, 0, true), 1);
    }

    private static void nothingFollowed() {
        Check.says("Nothing FOLLOWED: how many there were.");
        ShutterTown x = new ShutterTown();
        Check.due("of none", x.unfollow(), 0);
        x.follow(1, 1, true);
        x.follow(1, 2, true);
        Check.due("of two", x.unfollow(), 2);
        Check.due("again", x.unfollow(), 0);
        Check.due("all CODES are back", x.codes(false), 256);
        Check.due("count(7)", x.count(7), 0);
    }

    /** How many CODES are left once word v FOLLOWED surely, too: none, if v can not be. */
    private static int codesWith(int s, int w, boolean surely, int v) {
        ShutterTown x = new ShutterTown();
        x.follow(s, w, surely);
        x.follow(s, v, true);
        return x.codes(false);
    }

    private static void surelyOneWord() {
        Check.says("that behind STATE s somebody did what word w (0 to 3) says (surely)");
        for (int s = 0; s <= 3; s++) {
            for (int w = 0; w <= 3; w++) {
                for (int v = 0; v <= 3; v++) {
                    String call = "surely " + w + ", then " + v + " behind " + s;
                    Check.due(call, codesWith(s, w, true, v), v == w ? 64 : 0);
                }
            }
        }
    }

    private static void zeroBehindThree() {
        Check.says("or what that or the next word (0 behind 3) says (not surely)");
        for (int s = 0; s <= 3; s++) {
            for (int w = 0; w <= 3; w++) {
                for (int v = 0; v <= 3; v++) {
                    boolean can = v == w || v == w + 1 || w == 3 && v == 0;
                    String call = "not surely " + w + ", then " + v + " behind " + s;
                    Check.due(call, codesWith(s, w, false, v), can ? 64 : 0);
                }
            }
        }
        ShutterTown x = new ShutterTown();
        x.follow(0, 3, false);
        Check.due("3 or 0: how many", x.codes(false), 128);
        Check.due("3 or 0: the first", x.codes(true), 0);
    }

    private static void noCodeIsLeft() {
        Check.says("CODES: how many (row = false), the first as figures (row = true; NONE).");
        ShutterTown x = new ShutterTown();
        x.follow(3, 3, true);
        x.follow(3, 0, true);
        Check.due("codes(false)", x.codes(false), 0);
        Check.due("codes(true)", x.codes(true), NONE);
        x.follow(0, 1, true);
        Check.due("still none", x.codes(false), 0);
        Check.due("still NONE", x.codes(true), NONE);
    }

    private static void theFirstAsFigures() {
        Check.says("by which all that FOLLOWED is so: how many; the first as four figures; NONE.");
        ShutterTown x = new ShutterTown();
        for (int s = 0; s <= 3; s++) {
            x.follow(s, 3, true);
        }
        Check.due("one is left", x.codes(false), 1);
        Check.due("the last of all", x.codes(true), 3333);
        ShutterTown zeros = new ShutterTown();
        for (int s = 0; s <= 3; s++) {
            zeros.follow(s, 0, true);
        }
        Check.due("one is left", zeros.codes(false), 1);
        Check.due("four zeros are no NONE", zeros.codes(true), 0);
        int[] first = {1000, 100, 10, 1};
        for (int s = 0; s <= 3; s++) {
            ShutterTown one = new ShutterTown();
            one.follow(s, 1, false);
            Check.due("1 or 2 behind " + s, one.codes(true), first[s]);
        }
    }

    private static void lookOfAll() {
        Check.says("LOOK: the STATE by which CODES that are left are parted best");
        ShutterTown x = new ShutterTown();
        int[] next = {1, 2, 3};
        Check.due("none FOLLOWED", x.look(), 0);
        for (int s = 0; s < 3; s++) {
            x.follow(s, 3, false);
            Check.due("behind " + s, x.look(), next[s]);
        }
    }

    private static void lookLeastOfLike() {
        Check.says("the greatest part is least); the least of like ones;");
        ShutterTown x = new ShutterTown();
        for (int s = 0; s <= 3; s++) {
            x.follow(s, s, true);
        }
        Check.due("one CODE is left: all are alike", x.look(), 0);
        ShutterTown two = new ShutterTown();
        for (int s = 0; s <= 3; s++) {
            two.follow(s, 3, s < 2);
        }
        Check.due("2 and 3 are alike", two.look(), 2);
        two.follow(2, 3, true);
        Check.due("3 alone", two.look(), 3);
    }

    private static void lookOfNone() {
        Check.says("the least of like ones; NONE: no CODE is left.");
        ShutterTown x = new ShutterTown();
        x.follow(0, 0, true);
        x.follow(0, 1, false);
        Check.due("look()", x.look(), NONE);
        x.unfollow();
        Check.due("look() of all", x.look(), 0);
    }

    private static void willByKinds() {
        Check.says("2: it can be by wind (LOOSE, its left leaf alone), 1: by a hand alone, 0: by neither (DEAD).");
        ShutterTown x = Check.town("S00001W00000W10001W20002W30003");
        for (int was = 0; was <= 3; was++) {
            for (int is = 0; is <= 3; is++) {
                if (was != is) {
                    boolean leftAlone = was / 2 == is / 2;
                    int[] due = {1, 1, leftAlone ? 2 : 1, 0};
                    for (int window = 0; window <= 3; window++) {
                        String call = "will(" + window + ", " + was + ", " + is + ")";
                        Check.due(call, x.will(window, was, is), due[window]);
                    }
                }
            }
        }
    }

    private static void willRefused() {
        Check.says("WILL or WIND. UNKNOWN; OUTSIDE: both STATES (0 to 3, not alike).");
        ShutterTown x = Check.town("S00001W00002W10003");
        int[] outside = {-1, 4, 5, Integer.MIN_VALUE, Integer.MAX_VALUE};
        for (int state : outside) {
            Check.due("will(0, " + state + ", 0)", x.will(0, state, 0), OUTSIDE);
            Check.due("will(0, 3, " + state + ")", x.will(0, 3, state), OUTSIDE);
            Check.due("DEAD: will(1, 0, " + state + ")", x.will(1, 0, state), OUTSIDE);
            Check.due("unknown: will(2, " + state + ", 0)", x.will(2, state, 0), UNKNOWN);
        }
        for (int state = 0; state <= 3; state++) {
            Check.due("alike: will(0, " + state + ")", x.will(0, state, state), OUTSIDE);
            Check.due("alike, DEAD: will(1, " + state + ")", x.will(1, state, state), OUTSIDE);
            Check.due("alike, unknown: will(-1, " + state + ")", x.will(-1, state, state), UNKNOWN);
        }
        Check.due("4 and 5 differ by a left leaf", x.will(0, 4, 5), OUTSIDE);
    }
}
