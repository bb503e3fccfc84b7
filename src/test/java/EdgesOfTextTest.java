/** Sentence by sentence the edges of promises 1 to 5 and of what part 1 of the terms says of THE TEXT. */
public final class EdgesOfTextTest {
    private static final String SIX = Towns.apart(6);
    private static final int NONE = ShutterTown.NONE;
    private static final int OUTSIDE = ShutterTown.OUTSIDE;
    private static final int STATE = ShutterTown.STATE;
    private static final int FULL = ShutterTown.FULL;

    public static void main(String[] args) {
        noWindowsAtFirst();
        theFirstTown();
        noneIsMinusNine();
        usedForManyCalls();
        letters();
        fullText();
        wiping();
        lettersOfTheHead();
        lettersOfAWindow();
        noMoreThanSix();
        noneHasBothAlike();
        noSideIsLeft();
        notAtItsEnd();
        theFirstOfSeveralFaults();
        townRefused();
        howManyWindows();
        whatATownEmpties();
        whatATownLeaves();
        aTownInPlaceOfAnother();
        Check.end("EdgesOfTextTest");
    }

    private static void noWindowsAtFirst() {
        Check.says("`ShutterTown()`: No windows.");
        ShutterTown x = new ShutterTown();
        Check.due("count(1)", x.count(1), 0);
        Check.due("window(0, 3)", x.window(0, 3), ShutterTown.UNKNOWN);
        Check.due("wind()", x.wind(), 0);
        Check.due("hour()", x.hour(), 0);
        Check.due("count(5)", x.count(5), 0);
        Check.due("count(8)", x.count(8), 0);
        Check.due("afternoons(30)", x.afternoons(30), 0);
        Check.due("judge(1, 03)", x.judge(1, 3), 0);
    }

    private static void theFirstTown() {
        Check.says("At first it is S01231.");
        ShutterTown x = new ShutterTown();
        Check.due("SIGHT", x.count(2), 1);
        Check.due("the words", x.count(4), 123);
        Check.due("THE HOUR", x.count(3), 0);
        Check.due("THE TEXT is empty", x.count(0), 0);
        Check.due("which is a fault", x.fault(), 0);
        Check.due("so it can not be taken", x.town(), STATE);
        Check.write(x, "S01231");
        Check.due("told by hand", x.town(), 0);
        Check.due("the words", x.count(4), 123);
        Check.due("SIGHT", x.count(2), 1);
    }

    private static void noneIsMinusNine() {
        Check.says("NONE is -9.");
        Check.due("NONE", NONE, -9);
        Check.due("fault() of a town", Check.text("S01231").fault(), -9);
    }

    private static void usedForManyCalls() {
        Check.says("An object is used for at most 512 calls after it has been made");
        ShutterTown hours = new ShutterTown();
        for (int call = 1; call < 512; call++) {
            hours.hour();
        }
        Check.due("the 512th call, behind 511 hours", hours.count(3), 511);
        ShutterTown letters = new ShutterTown();
        for (int call = 1; call < 512; call++) {
            Check.due("write, call " + call, letters.write('S'), call <= 48 ? call : FULL);
        }
        Check.due("the 512th call, behind 511 letters", letters.wipe(), 48);
    }

    private static void letters() {
        Check.says("A letter (0 to 255) comes behind THE TEXT: how long it is.");
        int[] outside = {-1, 256, -256, 257, 256 + 'S', 65536 + 'S', Integer.MIN_VALUE, Integer.MAX_VALUE};
        for (int letter : outside) {
            ShutterTown x = new ShutterTown();
            Check.due("write(" + letter + ")", x.write(letter), OUTSIDE);
            Check.due("no letter came", x.count(0), 0);
        }
        for (int letter = 0; letter <= 255; letter++) {
            ShutterTown x = new ShutterTown();
            Check.due("write(" + letter + ")", x.write(letter), 1);
            Check.due("write(" + letter + ") again", x.write(letter), 2);
        }
    }

    private static void fullText() {
        Check.says("OUTSIDE; FULL: there are 48.");
        ShutterTown x = new ShutterTown();
        for (int length = 1; length <= 48; length++) {
            Check.due("write to " + length, x.write('x'), length);
        }
        Check.due("the 49th", x.write('x'), FULL);
        Check.due("the 49th, 0", x.write(0), FULL);
        Check.due("the 49th, 255", x.write(255), FULL);
        Check.due("outside and full, 256", x.write(256), OUTSIDE);
        Check.due("outside and full, -1", x.write(-1), OUTSIDE);
        Check.due("48 are left", x.count(0), 48);
        Check.due("wipe()", x.wipe(), 48);
        Check.due("there is room again", x.write('S'), 1);
        Check.due("and nothing of before", x.fault(), 1);
    }

    private static void wiping() {
        Check.says("THE TEXT is empty: how long it was.");
        ShutterTown x = new ShutterTown();
        Check.due("wipe() of none", x.wipe(), 0);
        x.write('S');
        Check.due("wipe() of one", x.wipe(), 1);
        Check.due("wipe() again", x.wipe(), 0);
        Check.due("count(0)", x.count(0), 0);
        Check.due("fault()", x.fault(), 0);
        Check.due("town()", x.town(), STATE);
        Check.write(x, SIX);
        x.town();
        Check.due("wipe() behind a town", x.wipe(), 42);
        Check.due("THE TOWN stays", x.count(1), 6);
    }

    /** Every letter at one place of a TOWN that is told up to there: those that fit, and no other one. */
    private static void lettersThere(String before, String fitting) {
        for (int letter = 0; letter <= 255; letter++) {
            ShutterTown x = Check.text(before);
            x.write(letter);
            int length = before.length() + 1;
            boolean fits = fitting.indexOf(letter) >= 0;
            int want = !fits ? length - 1 : length % 6 == 0 ? NONE : length;
            Check.due("fault() of " + before + " and letter " + letter, x.fault(), want);
        }
    }

    private static void lettersOfTheHead() {
        Check.says("A TOWN is a TEXT: S, then four WORDS (0 to 3 each:");
        lettersThere("", "S");
        lettersThere("S", "0123");
        lettersThere("S3", "0123");
        lettersThere("S33", "0123");
        lettersThere("S333", "0123");
        Check.says("SIGHT (1 to 9)");
        lettersThere("S0000", "123456789");
        Check.says("two STATES may say one word");
        Check.due("all say one", Check.town("S33331").count(4), 3333);
    }

    private static void lettersOfAWindow() {
        Check.says("a WINDOW at PLACE p on side d (0, 1; none has both alike), on FLOOR h (0 to 3), "
            + "its shutter in STATE s, of KIND k:");
        lettersThere("S01231", "W");
        lettersThere("S01231W", "0123456789");
        lettersThere("S01231W0", "01");
        lettersThere("S01231W00", "0123");
        lettersThere("S01231W000", "0123");
        lettersThere("S01231W0000", "0123");
        lettersThere("S01231W91333", "W");
        lettersThere("S01231W91333W9", "0");
        lettersThere("S01231W91333W8", "01");
    }

    private static void noMoreThanSix() {
        Check.says("then WINDOWS, none or more, numbered as they are told (6 at most):");
        for (int windows = 0; windows <= 6; windows++) {
            Check.due("fault() of " + windows, Check.text(Towns.apart(windows)).fault(), NONE);
            Check.due("town() of " + windows, Check.text(Towns.apart(windows)).town(), windows);
        }
        Check.due("fault() of seven", Check.text(SIX + "W91000").fault(), 42);
        Check.due("town() of seven", Check.text(SIX + "W91000").town(), STATE);
        lettersThereAreNone(SIX);
        ShutterTown x = Check.town(Towns.apart(6));
        for (int window = 0; window < 6; window++) {
            Check.due("PLACE of " + window, x.window(window, 0), window);
        }
    }

    private static void lettersThereAreNone(String before) {
        for (int letter = 0; letter <= 255; letter++) {
            ShutterTown x = Check.text(before);
            x.write(letter);
            Check.due("fault() of six and letter " + letter, x.fault(), 42);
        }
    }

    private static void noneHasBothAlike() {
        Check.says("(0, 1; none has both alike)");
        for (int place = 0; place <= 9; place++) {
            for (int side = 0; side <= 1; side++) {
                String told = "S01231W" + place + side + "000W" + place;
                Check.due("the same side: " + told, Check.text(told + side).fault(), 14);
                Check.due("the same, to the end: " + told, Check.text(told + side + "123").fault(), 14);
                Check.due("the other side: " + told, Check.text(told + (1 - side)).fault(), 15);
                Check.due("the PLACE alone: " + told, Check.text(told).fault(), 14);
            }
        }
        Check.due("alike as the last, the first", Check.text(SIX.substring(0, 36) + "W00").fault(), 38);
        Check.due("alike as the last, the fifth", Check.text(SIX.substring(0, 36) + "W40").fault(), 38);
        Check.due("alike but for the side", Check.text(SIX.substring(0, 36) + "W01000").fault(), NONE);
    }

    private static void noSideIsLeft() {
        Check.says("the place of the first letter by which THE TEXT can be no TOWN, whatever came behind it");
        for (int place = 0; place <= 9; place++) {
            int next = (place + 1) % 10;
            String both = "S01231W" + place + "1000W" + place + "0000W";
            Check.due("no side is left: " + both + place, Check.text(both + place).fault(), 19);
            Check.due("and a letter more: " + both + place, Check.text(both + place + "0").fault(), 19);
            Check.due("another PLACE: " + both + next, Check.text(both + next).fault(), 20);
        }
        Check.due("the sides of two PLACES", Check.text("S01231W00000W11000W0").fault(), 20);
    }

    private static void notAtItsEnd() {
        Check.says("its length, if it is only not at its end; NONE: none.");
        for (int length = 0; length <= 42; length++) {
            int want = length > 0 && length % 6 == 0 ? NONE : length;
            Check.due("fault() of " + length + " letters", Check.text(SIX.substring(0, length)).fault(), want);
        }
    }

    private static void theFirstOfSeveralFaults() {
        Check.says("FAULT: the place of the first letter by which THE TEXT can be no TOWN");
        for (int first = 0; first < 42; first++) {
            String text = SIX.substring(0, first) + "?" + SIX.substring(first + 1, 42) + "??????";
            Check.due("fault() of " + text, Check.text(text).fault(), first);
            Check.due("town() of " + text, Check.text(text).town(), STATE);
        }
    }

    private static void townRefused() {
        Check.says("how many WINDOWS. STATE: a FAULT.");
        ShutterTown x = Check.town("S32109W90123");
        String[] faulty = {"", "S", "S0123", "S01230", "S01231W", "S01231W0000", "S01231W00004", "S01231W00000W00000"};
        for (String text : faulty) {
            x.wipe();
            Check.write(x, text);
            Check.due("town() of " + text, x.town(), STATE);
            Check.due("the words stay", x.count(4), 3210);
            Check.due("SIGHT stays", x.count(2), 9);
            Check.due("the WINDOW stays", x.count(1) * 100 + x.window(0, 0) * 10 + x.window(0, 4), 193);
        }
    }

    private static void howManyWindows() {
        Check.says("what FOLLOWED, THE SEED stay): how many WINDOWS.");
        ShutterTown x = Check.text("S01231");
        Check.due("town() of none", x.town(), 0);
        for (int windows = 1; windows <= 6; windows++) {
            Check.write(x, SIX.substring(6 * windows, 6 * windows + 6));
            Check.due("town() goes on with THE TEXT", x.town(), windows);
            Check.due("and again", x.town(), windows);
        }
        x.write('W');
        Check.due("town() of more", x.town(), STATE);
        Check.due("six are left", x.count(1), 6);
    }

    private static void whatATownEmpties() {
        Check.says("(THE ROW of ACTS is empty, what was kept is gone, nothing is to be PASSED ON;");
        ShutterTown x = Check.town(Towns.two("0123", 0, 0, 1, 0));
        x.pass(0, 1);
        x.pass(1, 0);
        x.keep(0);
        x.keep(1);
        for (int act = 0; act < 14; act++) {
            x.wind();
        }
        Check.due("the row is full", x.count(6), 14);
        Check.due("two are due", x.count(5), 2);
        Check.due("town() of the same text", x.town(), 2);
        Check.due("no ACTS", x.count(6), 0);
        Check.due("none to undo", x.undo(), STATE);
        Check.due("again(0)", x.again(0), STATE);
        Check.due("again(1)", x.again(1), STATE);
        Check.due("none is due", x.count(5), 0);
        Check.due("0 passes nothing on", x.window(0, 7), NONE);
        Check.due("1 passes nothing on", x.window(1, 7), NONE);
        Check.due("an hour then", x.hour(), 0);
        Check.says("THE HOUR is 0 when THE TOWN is made anew.");
        Check.due("THE HOUR before", x.count(3), 1);
        x.town();
        Check.due("THE HOUR", x.count(3), 0);
    }

    private static void whatATownLeaves() {
        Check.says("what FOLLOWED, THE SEED stay)");
        ShutterTown x = new ShutterTown();
        for (int many = 1; many <= 6; many++) {
            x.follow(2, 3, false);
        }
        x.seed(Long.MIN_VALUE);
        Check.write(x, "S00001");
        Check.due("town()", x.town(), 0);
        Check.due("six FOLLOWED", x.count(7), 6);
        Check.due("a seventh", x.follow(2, 3, false), FULL);
        Check.due("CODES", x.codes(false), 128);
        Check.due("THE SEED", x.seed(0), Long.MIN_VALUE);
        Check.due("THE TEXT", x.count(0), 6);
    }

    private static void aTownInPlaceOfAnother() {
        Check.says("`int town()`: THE TEXT is THE TOWN");
        ShutterTown x = Check.town("S32109W00032W01022W90012");
        x.wipe();
        Check.write(x, "S01231W20000W21000");
        Check.due("a smaller one", x.town(), 2);
        Check.due("whom 0 SEES", x.window(0, 6), 2);
        Check.due("whom 1 SEES", x.window(1, 6), 1);
        Check.due("no third one", x.window(2, 0), ShutterTown.UNKNOWN);
        Check.due("no LOOSE one", x.wind(), 0);
        Check.due("STATE of 0", x.window(0, 3), 0);
        Check.write(x, "W30012W31021W50030W51002");
        Check.due("a larger one", x.town(), 6);
        Check.due("LOOSE ones", x.wind(), 36);
        Check.due("whom 3 SEES", x.window(3, 6), 5);
    }
}
