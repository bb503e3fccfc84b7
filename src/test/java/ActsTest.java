/** Promises 6 to 11: window, move, wind, pass, hour, undo. */
public final class ActsTest {
    /** PLAIN, DEAF, LOOSE and DEAD; the two at places 0 and 1 see each other in pairs. */
    private static final String FOUR = "S01231W00000W01111W10122W11033";

    public static void main(String[] args) {
        whatAWindowIs();
        whomItSees();
        moving();
        theWind();
        passingOn();
        passingOnByTheLeastState();
        hours();
        undoing();
        forgettingTheFirst();
        Check.end("ActsTest");
    }

    private static void whatAWindowIs() {
        ShutterTown x = Check.town("S32101W90123W51310");
        long[] one = {9, 0, 1, 2, 3, 1, 0, -9};
        long[] other = {5, 1, 3, 1, 0, 2, 0, -9};
        for (int what = 0; what < 8; what++) {
            Check.due("window(0, " + what + ")", x.window(0, what), one[what]);
            Check.due("window(1, " + what + ")", x.window(1, what), other[what]);
        }
        Check.due("window(-1, 0)", x.window(-1, 0), -1);
        Check.due("window(2, 0)", x.window(2, 0), -1);
        Check.due("window(2, 8)", x.window(2, 8), -1);
        Check.due("window(0, 8)", x.window(0, 8), -2);
        Check.due("window(0, -1)", x.window(0, -1), -2);
        Check.due("window(most, 0)", x.window(Integer.MAX_VALUE, 0), -1);
        Check.due("window(least, 0)", x.window(Integer.MIN_VALUE, 0), -1);
    }

    private static void seenBy(String text, int window, int want) {
        Check.due(text + ": window(" + window + ", 6)", Check.town(text).window(window, 6), want);
    }

    private static void whomItSees() {
        seenBy("S01232W20000W01000W11000W31000W41000W51000", 0, 30);
        seenBy("S01231W20000W01000W11000W31000W41000W51000", 0, 12);
        seenBy("S01239W00000W90000W91000", 0, 4);
        seenBy("S01238W00000W90000W91000", 0, 0);
        seenBy("S01238W00000W90000W91000", 2, 2);
        seenBy("S01231W00200W01000", 0, 0);
        seenBy("S01231W00200W01100", 0, 2);
        seenBy("S01231W00200W01200", 0, 2);
        seenBy("S01231W00200W01300", 0, 2);
        seenBy("S01231W00100W01300", 1, 0);
        seenBy("S01231W00000W10000", 0, 0);
    }

    private static void moving() {
        ShutterTown x = Check.town("S33101W00000W01111W10122W11033");
        Check.due("move(0, 1)", x.move(0, 1), 3);
        Check.due("its state", x.window(0, 3), 1);
        Check.due("move(0, 2)", x.move(0, 2), 1);
        Check.due("move(0, 3)", x.move(0, 3), 0);
        Check.due("move(0, 3) again", x.move(0, 3), -3);
        Check.due("move(1, 0)", x.move(1, 0), 3);
        Check.due("move(2, 3)", x.move(2, 3), 0);
        Check.due("a dead one", x.move(3, 1), -3);
        Check.due("a dead one, as it is", x.move(3, 3), -3);
        Check.due("a dead one, outside", x.move(3, 4), -2);
        Check.due("its state stays", x.window(3, 3), 3);
        Check.due("move(4, 0)", x.move(4, 0), -1);
        Check.due("move(-1, 9)", x.move(-1, 9), -1);
        Check.due("move(0, 4)", x.move(0, 4), -2);
        Check.due("move(0, -1)", x.move(0, -1), -2);
        Check.due("acts", x.count(6), 5);
        Check.due("the hour stays", x.count(3), 0);
    }

    private static void theWind() {
        ShutterTown x = Check.town("S01231W00002W01012W10022W11032W20010W30023");
        Check.due("wind()", x.wind(), 15);
        long[] states = {1, 0, 3, 2, 1, 2};
        for (int window = 0; window < 6; window++) {
            Check.due("state of " + window, x.window(window, 3), states[window]);
        }
        Check.due("wind() again", x.wind(), 15);
        Check.due("state 0 is back", x.window(0, 3), 0);
        Check.due("state 3 is back", x.window(3, 3), 3);
        Check.due("acts", x.count(6), 2);
        ShutterTown still = Check.town("S01231W00010W01003");
        Check.due("wind() on none", still.wind(), 0);
        Check.due("it is an act", still.count(6), 1);
        Check.due("a plain one stays", still.window(0, 3), 1);
    }

    private static void passingOn() {
        ShutterTown x = Check.town(FOUR);
        Check.due("plain: pass(0, 1)", x.pass(0, 1), 1);
        Check.due("it is to pass on", x.window(0, 7), 1);
        Check.due("its state stays", x.window(0, 3), 0);
        Check.due("deaf: pass(1, 0)", x.pass(1, 0), 0);
        Check.due("at once", x.window(1, 3), 0);
        Check.due("nothing is due there", x.window(1, 7), -9);
        Check.due("what was due is the word of then", x.window(0, 7), 1);
        Check.due("in its place", x.pass(0, 1), 0);
        Check.due("due now", x.window(0, 7), 0);
        Check.due("one due", x.count(5), 1);
        Check.due("loose: pass(2, 3)", x.pass(2, 3), 3);
        Check.due("loose: due", x.window(2, 7), 3);
        Check.due("loose: its state stays", x.window(2, 3), 2);
        Check.due("two due", x.count(5), 2);
        Check.due("dead: pass(3, 2)", x.pass(3, 2), -3);
        Check.due("same side: pass(0, 2)", x.pass(0, 2), -3);
        Check.due("itself: pass(0, 0)", x.pass(0, 0), -3);
        Check.due("pass(4, 0)", x.pass(4, 0), -1);
        Check.due("pass(0, 4)", x.pass(0, 4), -1);
        Check.due("pass(-1, 0)", x.pass(-1, 0), -1);
        Check.due("pass(0, -1)", x.pass(0, -1), -1);
        Check.due("dead and unknown: pass(3, 9)", x.pass(3, 9), -1);
        Check.due("acts", x.count(6), 4);
        ShutterTown far = Check.town("S01231W00000W21000W01200");
        Check.due("too far", far.pass(0, 1), -3);
        Check.due("too high", far.pass(0, 2), -3);
        ShutterTown fromDead = Check.town("S01231W00023W01000");
        Check.due("what a dead one says", fromDead.pass(1, 0), 2);
    }

    private static void passingOnByTheLeastState() {
        ShutterTown x = Check.town("S02021W00030W01021W10011");
        Check.due("deaf: the word 0 is said by 2", x.pass(1, 0), 2);
        Check.due("deaf: the least state for 2 is 1", x.window(1, 3), 1);
        Check.due("plain, in state 3, says 2: passes 2", x.pass(0, 1), 2);
        Check.due("no word is another one", x.hour(), 0);
        Check.due("but its state is the least one", x.window(0, 3), 1);
    }

    private static void hours() {
        ShutterTown x = Check.town(FOUR);
        Check.due("an empty hour", x.hour(), 0);
        Check.due("the hour", x.count(3), 1);
        x.pass(0, 1);
        x.pass(2, 3);
        Check.due("hour()", x.hour(), 5);
        Check.due("state of 0", x.window(0, 3), 1);
        Check.due("state of 2", x.window(2, 3), 3);
        Check.due("no more due", x.window(0, 7), -9);
        Check.due("none due", x.count(5), 0);
        Check.due("the next does nothing", x.hour(), 0);
        Check.due("the hour is 3", x.count(3), 3);
        x.pass(0, 1);
        x.move(0, 2);
        Check.due("a move leaves what is due", x.window(0, 7), 1);
        x.pass(2, 3);
        x.wind();
        Check.due("wind leaves what is due", x.window(2, 7), 3);
        Check.due("hour() behind move and wind", x.hour(), 5);
        Check.due("state of 0 then", x.window(0, 3), 1);
        Check.due("state of 2 then", x.window(2, 3), 3);
        x.pass(0, 1);
        Check.due("the same word is no other", x.hour(), 0);
        Check.due("acts", x.count(6), 12);
    }

    private static void undoing() {
        ShutterTown x = Check.town(FOUR);
        x.move(0, 3);
        x.wind();
        x.pass(0, 1);
        x.move(1, 0);
        x.pass(0, 1);
        x.hour();
        Check.due("state of 0", x.window(0, 3), 0);
        Check.due("undo the hour", x.undo(), 5);
        Check.due("the hour is 0", x.count(3), 0);
        Check.due("it is due again", x.window(0, 7), 0);
        Check.due("its state is back", x.window(0, 3), 3);
        Check.due("undo the second pass", x.undo(), 4);
        Check.due("the first is due", x.window(0, 7), 1);
        Check.due("undo a move", x.undo(), 3);
        Check.due("it is back", x.window(1, 3), 1);
        Check.due("undo the first pass", x.undo(), 2);
        Check.due("none is due", x.window(0, 7), -9);
        Check.due("the wind moved 2", x.window(2, 3), 3);
        Check.due("undo the wind", x.undo(), 1);
        Check.due("2 is back", x.window(2, 3), 2);
        Check.due("undo the move", x.undo(), 0);
        Check.due("0 is back", x.window(0, 3), 0);
        Check.due("none is left", x.undo(), -3);
        x.move(0, 9);
        x.move(3, 0);
        x.pass(3, 2);
        x.pass(9, 9);
        Check.due("what is refused is no act", x.undo(), -3);
        x.pass(1, 0);
        Check.due("a deaf one's pass", x.window(1, 3), 0);
        Check.due("is undone", x.undo(), 0);
        Check.due("its state", x.window(1, 3), 1);
    }

    private static void forgettingTheFirst() {
        ShutterTown x = Check.town(FOUR);
        for (int act = 1; act <= 14; act++) {
            x.move(0, act % 2 == 0 ? 0 : 1);
            Check.due("acts", x.count(6), act);
        }
        x.move(0, 3);
        Check.due("fourteen at most", x.count(6), 14);
        x.move(0, 2);
        Check.due("fourteen still", x.count(6), 14);
        Check.due("undo()", x.undo(), 13);
        Check.due("state 3", x.window(0, 3), 3);
        Check.due("undo()", x.undo(), 12);
        Check.due("state 0", x.window(0, 3), 0);
        for (int left = 11; left >= 0; left--) {
            Check.due("undo()", x.undo(), left);
        }
        Check.due("the first two are forgotten", x.window(0, 3), 0);
        Check.due("none is left", x.undo(), -3);
        ShutterTown odd = Check.town(FOUR);
        for (int act = 0; act < 20; act++) {
            odd.hour();
        }
        for (int act = 19; act >= 6; act--) {
            Check.due("an hour undone", odd.undo(), act - 6);
            Check.due("it is undone", odd.count(3), act);
        }
        Check.due("the first six are forgotten", odd.undo(), -3);
    }
}
