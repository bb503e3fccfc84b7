/** Promises 1 to 5: a new object, write, wipe, fault, town. */
public final class TextTest {
    private static final String SIX = "S01231W00000W10000W20000W30000W40000W50000";

    public static void main(String[] args) {
        newObject();
        writing();
        wiping();
        faultsOfTheHead();
        faultsOfWindows();
        faultsOfPlacesTaken();
        takingATown();
        whatATownForgets();
        Check.end("TextTest");
    }

    private static void newObject() {
        ShutterTown x = new ShutterTown();
        long[] counts = {0, 0, 1, 0, 123, 0, 0, 0, 0};
        for (int what = 0; what < counts.length; what++) {
            Check.due("new: count(" + what + ")", x.count(what), counts[what]);
        }
        Check.due("new: window(0, 0)", x.window(0, 0), -1);
        Check.due("new: fault()", x.fault(), 0);
        Check.due("new: town()", x.town(), -3);
        Check.due("new: undo()", x.undo(), -3);
        Check.due("new: again(0)", x.again(0), -3);
        Check.due("new: again(1)", x.again(1), -3);
        Check.due("new: seed(1)", x.seed(1), 0);
        Check.due("new: codes(false)", x.codes(false), 256);
    }

    private static void writing() {
        ShutterTown x = new ShutterTown();
        Check.due("write(-1)", x.write(-1), -2);
        Check.due("write(256)", x.write(256), -2);
        Check.due("write(least)", x.write(Integer.MIN_VALUE), -2);
        Check.due("write(most)", x.write(Integer.MAX_VALUE), -2);
        Check.due("count(0) behind refusals", x.count(0), 0);
        Check.due("write(0)", x.write(0), 1);
        Check.due("write(255)", x.write(255), 2);
        for (int length = 3; length <= 48; length++) {
            Check.due("write to " + length, x.write('W'), length);
        }
        Check.due("the 49th letter", x.write('W'), -4);
        Check.due("the 49th letter, outside", x.write(256), -2);
        Check.due("count(0) of a full text", x.count(0), 48);
    }

    private static void wiping() {
        ShutterTown x = new ShutterTown();
        Check.due("wipe() of nothing", x.wipe(), 0);
        Check.write(x, "S0123");
        Check.due("wipe()", x.wipe(), 5);
        Check.due("count(0) behind wipe()", x.count(0), 0);
        Check.due("wipe() again", x.wipe(), 0);
        Check.write(x, SIX);
        Check.due("town()", x.town(), 6);
        Check.due("wipe() behind town()", x.wipe(), 42);
        Check.due("the town stays", x.count(1), 6);
        Check.due("fault() behind wipe()", x.fault(), 0);
    }

    private static void faultOf(String text, int want) {
        ShutterTown x = new ShutterTown();
        Check.write(x, text);
        Check.due("fault() of " + text, x.fault(), want);
        Check.due("fault() leaves " + text, x.count(0), text.length());
        Check.due("town() of " + text, x.town(), want == -9 ? text.length() / 6 - 1 : -3);
    }

    private static void faultsOfTheHead() {
        faultOf("", 0);
        faultOf("s", 0);
        faultOf("W", 0);
        faultOf("S", 1);
        faultOf("S4", 1);
        faultOf("S/", 1);
        faultOf("S0", 2);
        faultOf("S04", 2);
        faultOf("S004", 3);
        faultOf("S0004", 4);
        faultOf("S3333", 5);
        faultOf("S00000", 5);
        faultOf("S0000:", 5);
        faultOf("S0000W", 5);
        faultOf("S00001", -9);
        faultOf("S33339", -9);
        faultOf("S01231S", 6);
        faultOf("S012311", 6);
        faultOf("S0123" + (char) 255, 5);
    }

    private static void faultsOfWindows() {
        faultOf("S01231W", 7);
        faultOf("S01231w", 6);
        faultOf("S01231W:", 7);
        faultOf("S01231W9", 8);
        faultOf("S01231W92", 8);
        faultOf("S01231W91", 9);
        faultOf("S01231W914", 9);
        faultOf("S01231W913", 10);
        faultOf("S01231W9134", 10);
        faultOf("S01231W9133", 11);
        faultOf("S01231W91334", 11);
        faultOf("S01231W91333", -9);
        faultOf("S01231W91333X", 12);
        faultOf("S0123X" + "W91334", 5);
        faultOf(SIX, -9);
        faultOf(SIX + "W", 42);
        faultOf(SIX + "WXXXX", 42);
        faultOf(SIX.substring(0, 41), 41);
        faultOf(SIX.substring(0, 36), -9);
    }

    private static void faultsOfPlacesTaken() {
        faultOf("S01231W00000W0", 14);
        faultOf("S01231W00000W00", 14);
        faultOf("S01231W00000W01", 15);
        faultOf("S01231W00000W01000", -9);
        faultOf("S01231W01000W01", 14);
        faultOf("S01231W01000W00000", -9);
        faultOf("S01231W00000W01000W0", 19);
        faultOf("S01231W00000W01000W00", 19);
        faultOf("S01231W00000W01000W1", 20);
        faultOf("S01231W50000W00000W01000W51000W5", 31);
        faultOf("S01231W50000W00000W01000W51000W6", 32);
    }

    private static void takingATown() {
        ShutterTown x = new ShutterTown();
        Check.write(x, "S32107W31223");
        Check.due("town()", x.town(), 1);
        Check.due("the text stays", x.count(0), 12);
        long[] told = {3, 1, 2, 2, 3, 1, 0, -9};
        for (int what = 0; what < told.length; what++) {
            Check.due("window(0, " + what + ")", x.window(0, what), told[what]);
        }
        Check.due("count(2)", x.count(2), 7);
        Check.due("count(4)", x.count(4), 3210);
        x.write('W');
        Check.due("town() with a fault", x.town(), -3);
        Check.due("the town is the one before", x.count(1), 1);
        x.wipe();
        Check.write(x, "S00001");
        Check.due("town() of none", x.town(), 0);
        Check.due("no window is left", x.window(0, 0), -1);
        Check.due("count(4) of like words", x.count(4), 0);
    }

    private static void whatATownForgets() {
        ShutterTown x = Check.town("S01231W00000W01010");
        x.seed(77);
        x.follow(1, 2, true);
        x.pass(0, 1);
        x.hour();
        x.pass(1, 0);
        x.keep(0);
        x.keep(1);
        x.move(0, 3);
        Check.due("town() with a fault", faulty(x), -3);
        Check.due("refused: acts stay", x.count(6), 4);
        Check.due("refused: what is due stays", x.count(5), 1);
        Check.due("refused: the hour stays", x.count(3), 1);
        x.wipe();
        Check.write(x, "S01231W00000W01010");
        Check.due("town() anew", x.town(), 2);
        Check.due("no acts", x.count(6), 0);
        Check.due("no act to undo", x.undo(), -3);
        Check.due("nothing is due", x.count(5), 0);
        Check.due("nothing is due there", x.window(1, 7), -9);
        Check.due("the hour is 0", x.count(3), 0);
        Check.due("the state is as told", x.window(0, 3), 0);
        Check.due("slot 0 is gone", x.again(0), -3);
        Check.due("slot 1 is gone", x.again(1), -3);
        Check.due("what followed stays", x.count(7), 1);
        Check.due("the codes stay", x.codes(false), 64);
        Check.due("the seed stays", x.seed(0), 77);
    }

    private static int faulty(ShutterTown x) {
        x.write('?');
        return x.town();
    }
}
