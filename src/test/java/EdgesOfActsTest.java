/** Sentence by sentence the edges of promises 6 to 11 and of what part 1 of the terms says of ACTS. */
public final class EdgesOfActsTest {
    private static final int PLAIN = 0;
    private static final int DEAF = 1;
    private static final int LOOSE = 2;
    private static final int DEAD = 3;
    private static final int NONE = ShutterTown.NONE;
    private static final int UNKNOWN = ShutterTown.UNKNOWN;
    private static final int OUTSIDE = ShutterTown.OUTSIDE;
    private static final int STATE = ShutterTown.STATE;

    public static void main(String[] args) {
        noSuchWindow();
        noSuchWhat();
        acrossTheStreet();
        noFartherThanSight();
        noMoreThanOneFloor();
        nothingToPassOn();
        movedToAnotherState();
        moveRefused();
        windOnLeaves();
        windOnNone();
        passRefused();
        theLeastState();
        atOnceOrWithTheNextHour();
        inPlaceOfWhatItWasTo();
        noMoreToBe();
        anotherWordThen();
        noneToUndo();
        fourteenAtMost();
        eachKindOfActIsUndone();
        whatIsRefusedIsNoAct();
        Check.end("EdgesOfActsTest");
    }

    private static void noSuchWindow() {
        Check.says("UNKNOWN (there is no such WINDOW, SLOT)");
        for (int windows = 0; windows <= 6; windows++) {
            ShutterTown x = Check.town(Towns.apart(windows));
            int[] unknown = {-1, windows, windows + 1, 6, 7, Integer.MIN_VALUE, Integer.MAX_VALUE};
            for (int window : unknown) {
                unknownEverywhere(x, window);
            }
            for (int window = 0; window < windows; window++) {
                Check.due("window(" + window + ", 0)", x.window(window, 0), window);
            }
        }
    }

    private static void unknownEverywhere(ShutterTown x, int window) {
        String of = " of WINDOW " + window;
        Check.due("window" + of, x.window(window, 0), UNKNOWN);
        Check.due("move" + of, x.move(window, 0), UNKNOWN);
        Check.due("pass by" + of, x.pass(window, 0), UNKNOWN);
        Check.due("pass from" + of, x.pass(0, window), UNKNOWN);
        Check.due("soonest from" + of, x.soonest(window, 0, false), UNKNOWN);
        Check.due("soonest to" + of, x.soonest(0, window, true), UNKNOWN);
        Check.due("knows" + of, x.knows(window, 0), UNKNOWN);
        Check.due("cut from" + of, x.cut(window, 0), UNKNOWN);
        Check.due("cut to" + of, x.cut(0, window), UNKNOWN);
        Check.due("will" + of, x.will(window, 0, 1), UNKNOWN);
        Check.due("cross from" + of, x.cross(window, 0), UNKNOWN);
        Check.due("cross to" + of, x.cross(0, window), UNKNOWN);
        Check.due("slams above" + of, x.slams(window, 0, 0, true), UNKNOWN);
        Check.due("slams below" + of, x.slams(window, 0, 0, false), UNKNOWN);
    }

    private static void noSuchWhat() {
        Check.says("what it is to PASS ON (7: a word; NONE). UNKNOWN; OUTSIDE.");
        ShutterTown x = Check.town("S01231W91233");
        long[] told = {9, 1, 2, 3, 3, 3, 0, NONE};
        for (int what = 0; what < 8; what++) {
            Check.due("window(0, " + what + ")", x.window(0, what), told[what]);
        }
        int[] outside = {-1, 8, 9, Integer.MIN_VALUE, Integer.MAX_VALUE};
        for (int what : outside) {
            Check.due("window(0, " + what + ")", x.window(0, what), OUTSIDE);
            Check.due("window(1, " + what + ")", x.window(1, what), UNKNOWN);
        }
    }

    private static void acrossTheStreet() {
        Check.says("A WINDOW SEES another one across the street (on the other side)");
        ShutterTown x = Check.town("S01239W00000W10000W20000W01000W11000W21000");
        for (int window = 0; window < 6; window++) {
            Check.due("whom " + window + " SEES", x.window(window, 6), window < 3 ? 56 : 7);
        }
        Check.due("none but itself", Check.town("S01239W00000").window(0, 6), 0);
    }

    private static void noFartherThanSight() {
        Check.says("whose PLACE is no farther than SIGHT from its own");
        for (int sight = 1; sight <= 9; sight++) {
            for (int place = 0; place <= 9; place++) {
                ShutterTown x = Check.town("S0123" + sight + "W00000W" + place + "1000");
                boolean near = place <= sight;
                Check.due("SIGHT " + sight + ", PLACE " + place, x.window(0, 6), near ? 2 : 0);
                Check.due("SIGHT " + sight + ", from PLACE " + place, x.window(1, 6), near ? 1 : 0);
            }
        }
    }

    private static void noMoreThanOneFloor() {
        Check.says("and no more than one FLOOR away.");
        for (int one = 0; one <= 3; one++) {
            for (int other = 0; other <= 3; other++) {
                ShutterTown x = Check.town("S01231W00" + one + "00W11" + other + "00");
                boolean level = one - other <= 1 && other - one <= 1;
                Check.due("FLOORS " + one + " and " + other, x.window(0, 6), level ? 2 : 0);
                Check.due("FLOORS " + other + " and " + one, x.window(1, 6), level ? 1 : 0);
            }
        }
    }

    private static void nothingToPassOn() {
        Check.says("what it is to PASS ON (7: a word; NONE)");
        ShutterTown x = Check.town(Towns.two("0123", 0, PLAIN, 0, PLAIN));
        Check.due("at first", x.window(0, 7), NONE);
        x.pass(0, 1);
        Check.due("word 0 is not NONE", x.window(0, 7), 0);
        Check.due("one is due", x.count(5), 1);
        Check.due("the other has none", x.window(1, 7), NONE);
        x.hour();
        Check.due("behind the HOUR", x.window(0, 7), NONE);
    }

    private static void movedToAnotherState() {
        Check.says("MOVED: a WINDOW (not DEAD) is in another STATE.");
        for (int kind = 0; kind <= 3; kind++) {
            for (int was = 0; was <= 3; was++) {
                for (int is = 0; is <= 3; is++) {
                    ShutterTown x = Check.town("S32101W000" + was + kind);
                    boolean can = kind != DEAD && was != is;
                    String call = "KIND " + kind + " in " + was + ": move(0, " + is + ")";
                    Check.due(call, x.move(0, is), can ? 3 - is : STATE);
                    Check.due(call + ", then its STATE", x.window(0, 3), can ? is : was);
                    Check.due(call + ", ACTS", x.count(6), can ? 1 : 0);
                }
            }
        }
    }

    private static void moveRefused() {
        Check.says("UNKNOWN; OUTSIDE: state (0 to 3); STATE: it is so, or the WINDOW is DEAD.");
        ShutterTown x = Check.town(Towns.two("0123", 0, PLAIN, 3, DEAD));
        int[] outside = {-1, 4, 5, Integer.MIN_VALUE, Integer.MAX_VALUE};
        for (int state : outside) {
            Check.due("move(0, " + state + ")", x.move(0, state), OUTSIDE);
            Check.due("DEAD: move(1, " + state + ")", x.move(1, state), OUTSIDE);
            Check.due("unknown: move(2, " + state + ")", x.move(2, state), UNKNOWN);
            Check.due("unknown: move(-1, " + state + ")", x.move(-1, state), UNKNOWN);
        }
        Check.due("it is so", x.move(0, 0), STATE);
        Check.due("DEAD", x.move(1, 0), STATE);
        Check.due("DEAD, and it is so", x.move(1, 3), STATE);
    }

    private static void windOnLeaves() {
        Check.says("WIND: the left leaf of each LOOSE one is open then, if it was shut, shut, if it was open.");
        int[] then = {1, 0, 3, 2};
        for (int kind = 0; kind <= 3; kind++) {
            for (int state = 0; state <= 3; state++) {
                ShutterTown x = Check.town("S00001W000" + state + kind);
                boolean moves = kind == LOOSE;
                Check.due("KIND " + kind + " in " + state + ": wind()", x.wind(), moves ? 1 : 0);
                Check.due("its STATE then", x.window(0, 3), moves ? then[state] : state);
                x.wind();
                Check.due("its STATE behind two", x.window(0, 3), state);
            }
        }
    }

    private static void windOnNone() {
        Check.says("`int wind()`: WIND: which WINDOWS moved (bits).");
        Check.due("no WINDOWS", new ShutterTown().wind(), 0);
        Check.due("none LOOSE", Check.town(Towns.line("013013")).wind(), 0);
        Check.due("all LOOSE", Check.town(Towns.line("222222")).wind(), 63);
        Check.due("the last", Check.town(Towns.line("000002")).wind(), 32);
        ShutterTown none = new ShutterTown();
        none.wind();
        Check.due("a WIND that moved none is an ACT", none.undo(), 0);
    }

    private static void passRefused() {
        Check.says("UNKNOWN: both; STATE: it does not SEE that one, or is DEAD.");
        ShutterTown x = Check.town("S01231W00000W01000W10000W21000W11003");
        Check.due("itself", x.pass(0, 0), STATE);
        Check.due("on the same side", x.pass(0, 2), STATE);
        Check.due("too far", x.pass(0, 3), STATE);
        Check.due("DEAD", x.pass(4, 0), STATE);
        Check.due("DEAD, itself", x.pass(4, 4), STATE);
        Check.due("from a DEAD one", x.pass(0, 4), 0);
        Check.due("unknown, both", x.pass(5, 5), UNKNOWN);
        Check.due("unknown, by", x.pass(5, 0), UNKNOWN);
        Check.due("unknown, from", x.pass(0, 5), UNKNOWN);
        Check.due("DEAD, from unknown", x.pass(4, 5), UNKNOWN);
        Check.due("DEAD, from -1", x.pass(4, -1), UNKNOWN);
        Check.due("one ACT", x.count(6), 1);
    }

    /** Each code and each STATE of the one that is read, by a DEAF one and by a PLAIN one. */
    private static void theLeastState() {
        Check.says("its STATE is the least one by which that word is said:");
        for (int number = 0; number < 256; number++) {
            String code = "" + number / 64 + number / 16 % 4 + number / 4 % 4 + number % 4;
            for (int state = 0; state <= 3; state++) {
                int word = code.charAt(state) - '0';
                int least = code.indexOf(code.charAt(state));
                ShutterTown x = Check.town("S" + code + "1W000" + state + "3W01031W10030");
                String call = code + ", from STATE " + state;
                Check.due(call + ": pass(1, 0)", x.pass(1, 0), word);
                Check.due(call + ": a DEAF one", x.window(1, 3), least);
                Check.due(call + ": pass(2, 1)", x.pass(2, 1), word);
                Check.due(call + ": hour()", x.hour(), word == code.charAt(3) - '0' ? 0 : 4);
                Check.due(call + ": a PLAIN one", x.window(2, 3), least);
            }
        }
    }

    private static void atOnceOrWithTheNextHour() {
        Check.says("a DEAF one at once; a PLAIN or LOOSE one is to PASS it ON (in place of what it was to), "
            + "with the next HOUR.");
        int[] kinds = {PLAIN, DEAF, LOOSE};
        for (int kind : kinds) {
            ShutterTown x = Check.town(Towns.two("0123", 0, kind, 3, DEAD));
            boolean atOnce = kind == DEAF;
            Check.due("KIND " + kind + ": pass(0, 1)", x.pass(0, 1), 3);
            Check.due("KIND " + kind + ": its STATE", x.window(0, 3), atOnce ? 3 : 0);
            Check.due("KIND " + kind + ": due", x.window(0, 7), atOnce ? NONE : 3);
            Check.due("KIND " + kind + ": hour()", x.hour(), atOnce ? 0 : 1);
            Check.due("KIND " + kind + ": its STATE then", x.window(0, 3), 3);
        }
    }

    private static void inPlaceOfWhatItWasTo() {
        Check.says("(in place of what it was to)");
        ShutterTown x = Check.town("S01231W00000W01030W11020");
        x.pass(0, 1);
        Check.due("due", x.window(0, 7), 3);
        x.pass(0, 2);
        Check.due("due in its place", x.window(0, 7), 2);
        Check.due("one is due", x.count(5), 1);
        x.move(2, 1);
        Check.due("the word of then stays due", x.window(0, 7), 2);
        Check.due("hour()", x.hour(), 1);
        Check.due("its STATE", x.window(0, 3), 2);
        x.undo();
        x.undo();
        x.undo();
        Check.due("undone: due as before", x.window(0, 7), 3);
    }

    private static void noMoreToBe() {
        Check.says("AN HOUR: what is to be PASSED ON is so now, and no more to be; THE HOUR is one more.");
        ShutterTown x = Check.town(Towns.two("0123", 0, PLAIN, 3, DEAD));
        Check.due("an HOUR with nothing due", x.hour(), 0);
        Check.due("THE HOUR", x.count(3), 1);
        x.pass(0, 1);
        Check.due("an HOUR", x.hour(), 1);
        Check.due("none is due", x.count(5), 0);
        x.move(0, 1);
        Check.due("the next one", x.hour(), 0);
        Check.due("it is as it was moved", x.window(0, 3), 1);
        Check.due("THE HOUR", x.count(3), 3);
    }

    private static void anotherWordThen() {
        Check.says("`int hour()`: AN HOUR: which WINDOWS say another word then (bits).");
        ShutterTown swap = Check.town(Towns.two("0123", 0, PLAIN, 3, LOOSE));
        swap.pass(0, 1);
        swap.pass(1, 0);
        Check.due("two change words at once", swap.hour(), 3);
        Check.due("STATE of 0", swap.window(0, 3), 3);
        Check.due("STATE of 1", swap.window(1, 3), 0);
        ShutterTown same = Check.town(Towns.two("2322", 0, PLAIN, 3, PLAIN));
        same.pass(1, 0);
        Check.due("the same word by another STATE", same.hour(), 0);
        Check.due("STATE of 1", same.window(1, 3), 0);
        ShutterTown all = Check.town("S01239W00000W10000W20000W30000W40000W51010");
        for (int window = 0; window < 5; window++) {
            all.pass(window, 5);
        }
        all.pass(5, 0);
        Check.due("six are due", all.count(5), 6);
        Check.due("all six", all.hour(), 63);
        all.undo();
        for (int window = 0; window < 6; window++) {
            Check.due("undone: due at " + window, all.window(window, 7), window < 5 ? 1 : 0);
            Check.due("undone: STATE of " + window, all.window(window, 3), window < 5 ? 0 : 1);
        }
    }

    private static void noneToUndo() {
        Check.says("The last ACT is undone: how many are left. STATE: there is none.");
        ShutterTown x = new ShutterTown();
        Check.due("undo() of a new one", x.undo(), STATE);
        x.hour();
        Check.due("undo()", x.undo(), 0);
        Check.due("undo() again", x.undo(), STATE);
        Check.due("THE HOUR", x.count(3), 0);
        x.hour();
        x.hour();
        Check.due("undo() of two", x.undo(), 1);
        x.wind();
        Check.due("ACTS behind it", x.count(6), 2);
        Check.due("undo() of the last", x.undo(), 1);
        Check.due("THE HOUR stays", x.count(3), 1);
    }

    /** HOURS tell how many ACTS were undone: those that are forgotten stay. */
    private static void fourteenAtMost() {
        Check.says("are a row (14 at most; of more the first one is forgotten); the last one can be undone.");
        int[] many = {1, 13, 14, 15, 16, 27, 28, 29, 100};
        for (int acts : many) {
            ShutterTown x = new ShutterTown();
            for (int act = 0; act < acts; act++) {
                x.hour();
            }
            int row = Math.min(14, acts);
            Check.due(acts + " ACTS", x.count(6), row);
            for (int left = row - 1; left >= 0; left--) {
                Check.due(acts + " ACTS: undo()", x.undo(), left);
                Check.due(acts + " ACTS: THE HOUR", x.count(3), acts - row + left);
            }
            Check.due(acts + " ACTS: none is left", x.undo(), STATE);
            Check.due(acts + " ACTS: the first are forgotten", x.count(3), acts - row);
        }
    }

    private static void eachKindOfActIsUndone() {
        Check.says("ACTS (MOVED, WIND, PASSED ON, HOURS)");
        ShutterTown x = Check.town("S01231W00000W01011W10022W11033");
        x.move(0, 3);
        Check.due("a MOVED: undo()", x.undo() * 10 + x.window(0, 3), 0);
        x.wind();
        Check.due("a WIND: undo()", x.undo() * 10 + x.window(2, 3), 2);
        x.pass(1, 0);
        Check.due("PASSED ON at once: undo()", x.undo() * 10 + x.window(1, 3), 1);
        x.pass(2, 3);
        Check.due("PASSED ON later: undo()", x.undo() * 10 + x.count(5), 0);
        x.pass(2, 3);
        x.hour();
        Check.due("an HOUR: undo()", x.undo(), 1);
        Check.due("an HOUR: its STATE", x.window(2, 3), 2);
        Check.due("an HOUR: due again", x.window(2, 7), 3);
        Check.due("an HOUR: THE HOUR", x.count(3), 0);
    }

    private static void whatIsRefusedIsNoAct() {
        Check.says("What is refused changes nothing.");
        ShutterTown x = Check.town("S01231W00000W01011W10022W11033");
        x.hour();
        x.move(0, 0);
        x.move(3, 0);
        x.move(0, 4);
        x.move(4, 0);
        x.pass(0, 0);
        x.pass(3, 0);
        x.pass(4, 0);
        Check.due("one ACT", x.count(6), 1);
        Check.due("undo()", x.undo(), 0);
        Check.due("THE HOUR", x.count(3), 0);
    }
}
