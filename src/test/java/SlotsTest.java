/** Promises 27 to 29: keep, again, count. */
public final class SlotsTest {
    private static final String FOUR = "S01231W00000W01111W10122W11033";

    public static void main(String[] args) {
        refusals();
        keepingAndGoingOn();
        slotsAreApart();
        counting();
        Check.end("SlotsTest");
    }

    private static void refusals() {
        ShutterTown x = Check.town(FOUR);
        int[] unknown = {-1, 2, Integer.MIN_VALUE, Integer.MAX_VALUE};
        for (int slot : unknown) {
            Check.due("keep(" + slot + ")", x.keep(slot), -1);
            Check.due("again(" + slot + ")", x.again(slot), -1);
        }
        x.wind();
        Check.due("again(0)", x.again(0), -3);
        Check.due("again(1)", x.again(1), -3);
        Check.due("refused: the acts stay", x.count(6), 1);
    }

    private static void keepingAndGoingOn() {
        ShutterTown x = Check.town(FOUR);
        x.hour();
        x.move(0, 2);
        x.pass(2, 3);
        Check.due("keep(1)", x.keep(1), 1);
        Check.due("to keep is no act", x.count(6), 3);
        x.hour();
        x.hour();
        x.move(0, 1);
        x.wind();
        x.follow(0, 0, true);
        x.seed(9);
        Check.due("again(1)", x.again(1), 1);
        Check.due("the hour", x.count(3), 1);
        Check.due("state of 0", x.window(0, 3), 2);
        Check.due("state of 2", x.window(2, 3), 2);
        Check.due("what is due", x.window(2, 7), 3);
        Check.due("no acts", x.count(6), 0);
        Check.due("none to undo", x.undo(), -3);
        Check.due("what followed stays", x.count(7), 1);
        Check.due("the seed stays", x.seed(0), 9);
        x.move(0, 3);
        Check.due("undo behind again", x.undo(), 0);
        Check.due("to what was kept", x.window(0, 3), 2);
        x.hour();
        Check.due("it is kept still", x.again(1), 1);
        Check.due("due again", x.window(2, 7), 3);
    }

    private static void slotsAreApart() {
        ShutterTown x = Check.town(FOUR);
        Check.due("keep(0)", x.keep(0), 0);
        x.hour();
        Check.due("keep(1)", x.keep(1), 1);
        x.hour();
        Check.due("again(0)", x.again(0), 0);
        Check.due("again(1)", x.again(1), 1);
        x.hour();
        x.hour();
        Check.due("keep(0) in its place", x.keep(0), 3);
        x.hour();
        Check.due("again(0) then", x.again(0), 3);
        Check.due("again(1) as before", x.again(1), 1);
        x.town();
        Check.due("gone with a new town", x.again(0), -3);
        Check.due("gone with a new town", x.again(1), -3);
    }

    private static void counting() {
        ShutterTown x = Check.town("S20139W00000W01010W10020W11020");
        long[] first = {30, 4, 9, 0, 2013, 0, 0, 0, 1};
        for (int what = 0; what < first.length; what++) {
            Check.due("count(" + what + ")", x.count(what), first[what]);
        }
        x.write('W');
        x.pass(0, 1);
        x.pass(2, 1);
        x.follow(3, 3, false);
        Check.due("two due", x.count(5), 2);
        x.move(1, 3);
        Check.due("no pair but one", x.count(8), 1);
        x.move(0, 2);
        Check.due("one pair more", x.count(8), 2);
        x.hour();
        long[] then = {31, 4, 9, 1, 2013, 0, 5, 1, 0};
        for (int what = 0; what < then.length; what++) {
            Check.due("then count(" + what + ")", x.count(what), then[what]);
        }
        Check.due("count(9)", x.count(9), -2);
        Check.due("count(-1)", x.count(-1), -2);
        Check.due("count(least)", x.count(Integer.MIN_VALUE), -2);
        Check.due("two states, one word", Check.town("S00121W00000W01010").count(8), 1);
        Check.due("each pair once", Check.town("S00001W00000W01010W10020").count(8), 2);
        Check.due("they must see each other", Check.town("S00001W00000W91010").count(8), 0);
    }
}
