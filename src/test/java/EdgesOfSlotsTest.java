/** Sentence by sentence the edges of promises 27 to 29 and of what part 3 of the terms says of SLOTS. */
public final class EdgesOfSlotsTest {
    private static final int NONE = ShutterTown.NONE;
    private static final int UNKNOWN = ShutterTown.UNKNOWN;
    private static final int OUTSIDE = ShutterTown.OUTSIDE;
    private static final int STATE = ShutterTown.STATE;

    public static void main(String[] args) {
        noSuchSlot();
        noneWereKept();
        asTheyWereKept();
        allSixAreKept();
        keptWithoutWindows();
        theRowIsEmpty();
        nothingElseIsKept();
        goneWithATown();
        noSuchCount();
        countsAtTheirLeast();
        countsAtTheirMost();
        Check.end("EdgesOfSlotsTest");
    }

    private static void noSuchSlot() {
        Check.says("SLOTS 0 to 1 keep STATES, what is to be PASSED ON, THE HOUR");
        int[] unknown = {-1, 2, 3, 32, 33, Integer.MIN_VALUE, Integer.MAX_VALUE};
        ShutterTown x = new ShutterTown();
        for (int slot : unknown) {
            Check.due("none kept: again(" + slot + ")", x.again(slot), UNKNOWN);
            Check.due("keep(" + slot + ")", x.keep(slot), UNKNOWN);
        }
        Check.due("again(0) behind them", x.again(0), STATE);
        Check.due("again(1) behind them", x.again(1), STATE);
        Check.due("keep(0)", x.keep(0), 0);
        Check.due("keep(1)", x.keep(1), 0);
        for (int slot : unknown) {
            Check.due("both kept: again(" + slot + ")", x.again(slot), UNKNOWN);
        }
    }

    private static void noneWereKept() {
        Check.says("They are as they were kept: THE HOUR. UNKNOWN; STATE: none were kept.");
        for (int slot = 0; slot <= 1; slot++) {
            ShutterTown x = new ShutterTown();
            x.hour();
            Check.due("again(" + slot + ")", x.again(slot), STATE);
            Check.due("refused: THE HOUR", x.count(3), 1);
            Check.due("refused: ACTS", x.count(6), 1);
            Check.due("keep(" + slot + ")", x.keep(slot), 1);
            Check.due("the other one", x.again(1 - slot), STATE);
            Check.due("again(" + slot + ")", x.again(slot), 1);
        }
    }

    private static void asTheyWereKept() {
        Check.says("`int keep(int slot)`: They are kept: THE HOUR. UNKNOWN.");
        ShutterTown x = Check.town("S01231W00000W01032W10020");
        Check.due("keep(0)", x.keep(0), 0);
        x.pass(0, 1);
        x.pass(2, 1);
        x.hour();
        x.wind();
        x.pass(1, 0);
        Check.due("keep(1)", x.keep(1), 1);
        Check.due("again(0)", x.again(0), 0);
        Check.due("STATES of 0", x.window(0, 3) * 100 + x.window(1, 3) * 10 + x.window(2, 3), 32);
        Check.due("none is due", x.count(5), 0);
        Check.due("again(1)", x.again(1), 1);
        Check.due("STATES of 1", x.window(0, 3) * 100 + x.window(1, 3) * 10 + x.window(2, 3), 323);
        Check.due("one is due", x.window(1, 7), 3);
        x.hour();
        Check.due("kept anew", x.keep(1), 2);
        Check.due("again(1) as kept last", x.again(1), 2);
        Check.due("and once more", x.again(1), 2);
        Check.due("none is due", x.count(5), 0);
        Check.due("0 is as it was", x.again(0), 0);
    }

    private static void allSixAreKept() {
        Check.says("SLOTS 0 to 1 keep STATES, what is to be PASSED ON, THE HOUR");
        ShutterTown x = Check.town("S01239W00000W10010W20020W01030W11010W21020");
        for (int hour = 0; hour < 9; hour++) {
            x.hour();
        }
        for (int window = 0; window < 6; window++) {
            x.pass(window, 5 - window);
        }
        Check.due("keep(0)", x.keep(0), 9);
        Check.due("keep(1)", x.keep(1), 9);
        x.hour();
        int[] states = {0, 1, 2, 3, 1, 2};
        for (int slot = 0; slot <= 1; slot++) {
            Check.due("again(" + slot + ")", x.again(slot), 9);
            for (int window = 0; window < 6; window++) {
                Check.due("STATE of " + window, x.window(window, 3), states[window]);
                Check.due("due at " + window, x.window(window, 7), states[5 - window]);
            }
        }
    }

    private static void keptWithoutWindows() {
        Check.says("They are kept: THE HOUR.");
        ShutterTown x = new ShutterTown();
        x.hour();
        Check.due("keep(0)", x.keep(0), 1);
        x.hour();
        Check.due("again(0)", x.again(0), 1);
        Check.due("THE HOUR", x.count(3), 1);
    }

    private static void theRowIsEmpty() {
        Check.says("(THE ROW of ACTS is empty when one goes on)");
        ShutterTown x = new ShutterTown();
        for (int act = 0; act < 20; act++) {
            x.hour();
        }
        x.keep(0);
        Check.due("to keep leaves the row", x.count(6), 14);
        Check.due("again(0)", x.again(0), 20);
        Check.due("ACTS", x.count(6), 0);
        Check.due("undo()", x.undo(), STATE);
        Check.due("THE HOUR", x.count(3), 20);
        for (int act = 0; act < 15; act++) {
            x.hour();
        }
        Check.due("the row is full again", x.count(6), 14);
        Check.due("undo() goes no farther back", x.undo(), 13);
    }

    private static void nothingElseIsKept() {
        Check.says("keep STATES, what is to be PASSED ON, THE HOUR");
        ShutterTown x = Check.town("S01231W00000");
        x.keep(0);
        x.follow(1, 1, true);
        x.seed(4);
        x.write('W');
        Check.due("again(0)", x.again(0), 0);
        Check.due("FOLLOWED", x.count(7), 1);
        Check.due("THE SEED", x.seed(0), 4);
        Check.due("THE TEXT", x.count(0), 13);
    }

    private static void goneWithATown() {
        Check.says("what was kept is gone");
        ShutterTown x = Check.town("S01231W00000");
        x.keep(0);
        x.keep(1);
        x.write('?');
        Check.due("town() refused", x.town(), STATE);
        Check.due("0 is kept still", x.again(0), 0);
        Check.due("1 is kept still", x.again(1), 0);
        x.wipe();
        Check.write(x, "S01231");
        x.town();
        Check.due("0 is gone", x.again(0), STATE);
        Check.due("1 is gone", x.again(1), STATE);
    }

    private static void noSuchCount() {
        Check.says("8 pairs of WINDOWS that SEE each other and say one word. OUTSIDE.");
        int[] outside = {-1, 9, 10, Integer.MIN_VALUE, Integer.MAX_VALUE};
        for (int what : outside) {
            Check.due("count(" + what + ")", new ShutterTown().count(what), OUTSIDE);
        }
    }

    private static void countsOf(ShutterTown x, long... due) {
        for (int what = 0; what < due.length; what++) {
            Check.due("count(" + what + ")", x.count(what), due[what]);
        }
    }

    private static void countsAtTheirLeast() {
        Check.says("0 letters of THE TEXT, 1 WINDOWS, 2 SIGHT, 3 THE HOUR, 4 the words of STATES as four figures, "
            + "5 how many are to be PASSED ON, 6 ACTS in the row, 7 what FOLLOWED,");
        countsOf(new ShutterTown(), 0, 0, 1, 0, 123, 0, 0, 0, 0);
        countsOf(Check.town("S00001"), 6, 0, 1, 0, 0, 0, 0, 0, 0);
    }

    /** Three on each side that all SEE each other: nine pairs. */
    private static void countsAtTheirMost() {
        Check.says("`int count(int what)`: 0 letters of THE TEXT");
        ShutterTown x = Check.town("S33339W00000W10000W20000W01000W11000W21000");
        for (int window = 0; window < 6; window++) {
            x.pass(window, window < 3 ? 3 : 0);
        }
        for (int act = 0; act < 20; act++) {
            x.wind();
            x.follow(0, 0, true);
            x.write('W');
        }
        countsOf(x, 48, 6, 9, 0, 3333, 6, 14, 6, 9);
        Check.due("word 3 is due", x.window(5, 7), 3);
        x.hour();
        countsOf(x, 48, 6, 9, 1, 3333, 0, 14, 6, 9);
        Check.due("none is due", x.window(5, 7), NONE);
    }
}
