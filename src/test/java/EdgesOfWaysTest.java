/** Sentence by sentence the edges of promises 12 to 16 and of part 2 of the terms. */
public final class EdgesOfWaysTest {
    private static final int NONE = ShutterTown.NONE;
    private static final int UNKNOWN = ShutterTown.UNKNOWN;
    private static final int OUTSIDE = ShutterTown.OUTSIDE;

    public static void main(String[] args) {
        endsAlone();
        deadOnesBetween();
        hoursForEachBetween();
        fewestHoursFirst();
        shorterOnesFirst();
        thenAsFigures();
        never();
        bothAreOne();
        knowsByHours();
        knowsItsOwn();
        knowsRefused();
        toTellRefused();
        toTellNone();
        toTellFewest();
        cutNone();
        cutAsItIs();
        cutFewest();
        howManyThings();
        howManyFigures();
        whatCanNotBe();
        thePlaceOfTheFirst();
        behindAThing();
        whatIsDue();
        Check.end("EdgesOfWaysTest");
    }

    private static void soonestOf(String text, int from, int to, int hours, int way) {
        ShutterTown x = Check.town(text);
        String call = text + ": soonest(" + from + ", " + to + ", ";
        Check.due(call + "false)", x.soonest(from, to, false), hours);
        Check.due(call + "true)", x.soonest(from, to, true), way);
    }

    private static void endsAlone() {
        Check.says("(shorter ones first, then as figures, 1 more each; both ends, too); NONE: never.");
        soonestOf(Towns.line("000000"), 0, 1, 0, 12);
        soonestOf(Towns.line("000000"), 1, 0, 0, 21);
        soonestOf(Towns.line("000000"), 4, 5, 0, 56);
        soonestOf(Towns.line("000000"), 0, 5, 4, 123456);
        soonestOf(Towns.line("000000"), 5, 0, 4, 654321);
    }

    private static void deadOnesBetween() {
        Check.says("all between PASS ON (not DEAD)");
        soonestOf(Towns.line("333333"), 0, 1, 0, 12);
        soonestOf(Towns.line("303"), 0, 2, 1, 123);
        soonestOf(Towns.line("030"), 0, 2, NONE, NONE);
        soonestOf(Towns.line("000030"), 0, 5, NONE, NONE);
        soonestOf(Towns.line("000030"), 0, 4, 3, 12345);
        soonestOf(Towns.ring("030000"), 0, 2, 1, 143);
        soonestOf(Towns.ring("030300"), 0, 2, NONE, NONE);
    }

    private static void hoursForEachBetween() {
        Check.says("HOURS: one for each between that is not DEAF.");
        soonestOf(Towns.line("111111"), 0, 5, 0, 123456);
        soonestOf(Towns.line("222222"), 0, 5, 4, 123456);
        soonestOf(Towns.line("100001"), 0, 5, 4, 123456);
        soonestOf(Towns.line("010000"), 0, 5, 3, 123456);
        soonestOf(Towns.line("000010"), 5, 0, 3, 654321);
    }

    /** By 1, 2 and 5 there are three between, by 3 there is one. */
    private static void fewestHoursFirst() {
        Check.says("SOONEST: the fewest HOURS; the first such WAY of these");
        soonestOf(Towns.ring("000000"), 0, 4, 1, 145);
        soonestOf(Towns.ring("011001"), 0, 4, 0, 12365);
        soonestOf(Towns.ring("011201"), 4, 0, 0, 56321);
    }

    private static void shorterOnesFirst() {
        Check.says("(shorter ones first, then as figures");
        soonestOf(Towns.ring("011101"), 0, 4, 0, 145);
        soonestOf(Towns.ring("011000"), 0, 4, 1, 145);
        soonestOf(Towns.ring("111111"), 5, 0, 0, 6321);
    }

    private static void thenAsFigures() {
        Check.says("then as figures, 1 more each; both ends, too)");
        soonestOf(Towns.ring("000000"), 0, 2, 1, 123);
        soonestOf(Towns.ring("000000"), 2, 0, 1, 321);
        soonestOf(Towns.ring("000000"), 0, 5, 2, 1236);
        soonestOf(Towns.ring("000000"), 5, 0, 2, 6321);
        soonestOf(Towns.ring("111111"), 1, 3, 0, 214);
        soonestOf(Towns.ring("030000"), 0, 5, 2, 1436);
    }

    private static void never() {
        Check.says("both ends, too); NONE: never.");
        soonestOf(Towns.apart(2), 0, 1, NONE, NONE);
        soonestOf("S01231W00000W01200", 0, 1, NONE, NONE);
        soonestOf("S01231W00000W21000", 0, 1, NONE, NONE);
        soonestOf("S01231W00000W01000W90000W91000", 1, 3, NONE, NONE);
    }

    private static void bothAreOne() {
        Check.says("SOONEST: HOURS (way = false), the WAY (way = true); NONE. UNKNOWN: both; OUTSIDE: both are one.");
        ShutterTown x = Check.town(Towns.line("013"));
        for (int window = 0; window < 3; window++) {
            Check.due("soonest, HOURS", x.soonest(window, window, false), OUTSIDE);
            Check.due("soonest, the WAY", x.soonest(window, window, true), OUTSIDE);
        }
        Check.due("one that is not there", x.soonest(3, 3, true), UNKNOWN);
        Check.due("one that is not there", x.soonest(-1, -1, false), UNKNOWN);
        Check.says("CUT, as bits; NONE. UNKNOWN: both; OUTSIDE: both are one.");
        Check.due("cut(0, 0)", x.cut(0, 0), OUTSIDE);
        Check.due("cut(2, 2)", x.cut(2, 2), OUTSIDE);
        Check.due("cut(3, 3)", x.cut(3, 3), UNKNOWN);
        Check.due("cut(-1, -1)", x.cut(-1, -1), UNKNOWN);
    }

    private static void knowsByHours() {
        Check.says("WINDOWS (bits) to which what a WINDOW says comes in n HOURS or fewer (its own, too).");
        ShutterTown plain = Check.town(Towns.line("000000"));
        int[] knowing = {3, 7, 15, 31, 63, 63, 63, 63, 63, 63};
        for (int n = 0; n <= 9; n++) {
            Check.due("knows(0, " + n + ")", plain.knows(0, n), knowing[n]);
            Check.due("all DEAF: knows(0, " + n + ")", Check.town(Towns.line("111111")).knows(0, n), 63);
        }
        Check.due("a DEAD one reads, and does not pass on", Check.town(Towns.line("003000")).knows(0, 9), 7);
        ShutterTown byTheFirst = Check.town("S01231W00000W01000W11000");
        Check.due("not by way of WINDOW 0 yet", byTheFirst.knows(1, 0), 3);
        Check.due("by way of WINDOW 0", byTheFirst.knows(1, 1), 7);
    }

    private static void knowsItsOwn() {
        Check.says("(its own, too)");
        ShutterTown x = Check.town("S01231W00000W50003");
        Check.due("knows(0, 0)", x.knows(0, 0), 1);
        Check.due("knows(0, 9)", x.knows(0, 9), 1);
        Check.due("DEAD: knows(1, 0)", x.knows(1, 0), 2);
    }

    private static void knowsRefused() {
        Check.says("KNOWS by HOUR n (0 to 9)");
        ShutterTown x = Check.town(Towns.line("00"));
        int[] outside = {-1, 10, 11, Integer.MIN_VALUE, Integer.MAX_VALUE};
        for (int n : outside) {
            Check.due("knows(0, " + n + ")", x.knows(0, n), OUTSIDE);
            Check.due("knows(2, " + n + ")", x.knows(2, n), UNKNOWN);
        }
    }

    private static void toTellRefused() {
        Check.says("OUTSIDE: windows (bits of WINDOWS that there are).");
        for (int windows = 0; windows <= 6; windows++) {
            ShutterTown x = Check.town(Towns.apart(windows));
            int all = (1 << windows) - 1;
            Check.due(windows + ": none", x.toTell(0), 0);
            Check.due(windows + ": all", x.toTell(all), all);
            Check.due(windows + ": one that is not there", x.toTell(all + 1), OUTSIDE);
            Check.due(windows + ": all, and one that is not there", x.toTell(2 * all + 1), OUTSIDE);
            Check.due(windows + ": -1", x.toTell(-1), OUTSIDE);
            Check.due(windows + ": least", x.toTell(Integer.MIN_VALUE), OUTSIDE);
            Check.due(windows + ": most", x.toTell(Integer.MAX_VALUE), OUTSIDE);
            Check.due(windows + ": a far bit", x.toTell(1 << 30), OUTSIDE);
        }
    }

    private static void toTellNone() {
        Check.says("and no other one SEES one, or is one; NONE.");
        ShutterTown two = Check.town(Towns.line("00"));
        Check.due("toTell(0)", two.toTell(0), 0);
        Check.due("toTell(1)", two.toTell(1), NONE);
        Check.due("toTell(2)", two.toTell(2), NONE);
        Check.due("toTell(3)", two.toTell(3), 1);
        ShutterTown three = Check.town(Towns.line("000"));
        Check.due("toTell(5) of a line of three", three.toTell(5), NONE);
    }

    private static void toTellFewest() {
        Check.says("the fewest WINDOWS (bits, of like ones the least)");
        Check.due("the middle alone", Check.town(Towns.line("000")).toTell(7), 2);
        Check.due("a greater number of fewer", Check.town(Towns.line("0000")).toTell(14), 4);
        Check.due("two of like ones", Check.town(Towns.line("0000")).toTell(15), 5);
        Check.due("two that do not SEE each other's", Check.town(Towns.line("000000")).toTell(63), 18);
        Check.due("none is told", Check.town(Towns.line("000000")).toTell(0), 0);
        Check.due("one of more bits, not two of fewer", Check.town("S01231W00000W10000W01000").toTell(7), 4);
    }

    private static void cutOf(String text, int from, int to, int want) {
        Check.due(text + ": cut(" + from + ", " + to + ")", Check.town(text).cut(from, to), want);
    }

    private static void cutNone() {
        Check.says("NONE: it is never by none such (they SEE each other)");
        cutOf(Towns.line("00"), 0, 1, NONE);
        cutOf(Towns.line("33"), 1, 0, NONE);
        cutOf(Towns.ring("000000"), 0, 3, NONE);
    }

    private static void cutAsItIs() {
        Check.says("0: it is never as it is.");
        cutOf(Towns.apart(2), 0, 1, 0);
        cutOf(Towns.line("030"), 0, 2, 0);
        cutOf(Towns.ring("030300"), 0, 5, 0);
    }

    private static void cutFewest() {
        Check.says("the fewest other WINDOWS (of like ones the least by bits) that, DEAD, make SOONEST never;");
        cutOf(Towns.line("000000"), 0, 5, 2);
        cutOf(Towns.line("000000"), 5, 0, 2);
        cutOf(Towns.line("111111"), 1, 5, 4);
        cutOf(Towns.line("303"), 0, 2, 2);
        cutOf(Towns.ring("000000"), 0, 5, 10);
        cutOf(Towns.ring("000000"), 1, 4, 5);
        cutOf(Towns.ring("300000"), 1, 4, 4);
        cutOf("S01239W00000W10000W01000W11000W21000W31000", 0, 1, 60);
        cutOf("S01231W01000W11000W10000W00000W21000", 3, 4, 4);
    }

    private static void howManyThings() {
        Check.says("JUDGED: n things (1 to 5) from now on");
        ShutterTown x = new ShutterTown();
        int[] outside = {-1, 0, 6, 7, Integer.MIN_VALUE, Integer.MAX_VALUE};
        for (int n : outside) {
            Check.due("judge(" + n + ", 0)", x.judge(n, 0), OUTSIDE);
            Check.due("judge(" + n + ", 90)", x.judge(n, 90), OUTSIDE);
            Check.due("judge(" + n + ", -1)", x.judge(n, -1), OUTSIDE);
        }
        long row = 0;
        for (int n = 1; n <= 5; n++) {
            row = 100 * row + 91;
            Check.due("judge(" + n + ", " + row + ")", x.judge(n, row), NONE);
        }
    }

    private static void howManyFigures() {
        Check.says("JUDGED; NONE. OUTSIDE: n, row (0 or more, 2 n figures at most).");
        ShutterTown x = new ShutterTown();
        long beyond = 1;
        for (int n = 1; n <= 5; n++) {
            beyond = 100 * beyond;
            Check.due("judge(" + n + ", 0)", x.judge(n, 0), 0);
            Check.due("judge(" + n + ", -1)", x.judge(n, -1), OUTSIDE);
            Check.due("judge(" + n + ", least)", x.judge(n, Long.MIN_VALUE), OUTSIDE);
            Check.due("judge(" + n + ", " + (beyond - 1) + ")", x.judge(n, beyond - 1), 0);
            Check.due("judge(" + n + ", " + beyond + ")", x.judge(n, beyond), OUTSIDE);
            Check.due("judge(" + n + ", most)", x.judge(n, Long.MAX_VALUE), OUTSIDE);
            Check.due("judge(" + n + ", more than an int)", x.judge(n, (1L << 62) + 90), OUTSIDE);
        }
    }

    private static void whatCanNotBe() {
        Check.says("told as two figures each (a WINDOW and a STATE: MOVED; 9 and 0: WIND; 9 and 1: AN HOUR)");
        ShutterTown x = Check.town("S01231W00000W50010W60023W70032");
        for (int thing = 0; thing < 100; thing++) {
            int window = thing / 10;
            int state = thing % 10;
            boolean moved = state <= 3 && (window == 0 || window == 1 || window == 3) && x.window(window, 3) != state;
            boolean can = moved || thing == 90 || thing == 91;
            Check.due("judge(1, " + thing + ")", x.judge(1, thing), can ? NONE : 0);
            Check.due("judge(2, 91" + thing + ")", x.judge(2, 9100 + thing), can ? NONE : 1);
        }
        ShutterTown six = Check.town(Towns.apart(6));
        Check.due("the sixth WINDOW", six.judge(1, 53), NONE);
        Check.due("a seventh", six.judge(1, 63), 0);
        Check.due("moved, and moved back", x.judge(2, 200), NONE);
        Check.due("moved, and so it is", x.judge(2, 202), 1);
        Check.due("moved by wind, and so it is", x.judge(2, 9032), 1);
        Check.due("moved by wind, and moved back", x.judge(2, 9033), NONE);
    }

    private static void thePlaceOfTheFirst() {
        Check.says("the place of the first that can not be");
        ShutterTown x = Check.town(Towns.apart(6));
        for (int at = 0; at < 5; at++) {
            char[] things = "9190919091".toCharArray();
            for (int behind = at; behind < 5; behind++) {
                things[2 * behind] = '8';
            }
            Check.due("judge(5, " + new String(things) + ")", x.judge(5, Long.parseLong(new String(things))), at);
        }
        Check.due("figures that are left out in front are 0", x.judge(3, 1), 0);
    }

    private static void behindAThing() {
        Check.says("or behind which two WINDOWS that SEE each other say one word; NONE: none.");
        ShutterTown alike = Check.town(Towns.two("0123", 0, 0, 0, 0));
        Check.due("alike before, and not behind", alike.judge(1, 1), NONE);
        Check.due("alike behind the second", alike.judge(2, 111), 1);
        Check.due("alike behind WIND", alike.judge(1, 90), 0);
        Check.due("alike behind AN HOUR", alike.judge(1, 91), 0);
        Check.due("by unlike STATES", Check.town(Towns.two("0100", 0, 0, 1, 0)).judge(1, 12), 0);
        Check.due("that do not SEE each other", Check.town("S00001W00000W01200").judge(1, 1), NONE);
        Check.due("a pair that did not move", Check.town("S01231W00000W01000W50000").judge(1, 21), 0);
        ShutterTown loose = Check.town(Towns.two("0123", 0, 2, 1, 3));
        Check.due("alike by wind", loose.judge(2, 9190), 1);
        Check.due("alike by wind, told first", loose.judge(3, 900290), 0);
        Check.due("moved before, so not alike by wind", loose.judge(2, 290), NONE);
    }

    private static void whatIsDue() {
        Check.says("what is still to be PASSED ON counts for JUDGED alone (AN HOUR there PASSES it ON).");
        ShutterTown x = Check.town("S01231W00000W01010W11022");
        x.pass(0, 1);
        Check.due("AN HOUR passes it on", x.judge(1, 91), 0);
        Check.due("not ahead of AN HOUR", x.judge(2, 9002), NONE);
        Check.due("behind AN HOUR", x.judge(2, 1391), NONE);
        Check.due("once alone", x.judge(4, 13910091), NONE);
        Check.due("behind a move of the same", x.judge(2, 391), 1);
        Check.due("pairs are those of now", x.count(8), 0);
        Check.due("slams are those of now", x.slams(1, 1, 0, true), 0);
        Check.due("soonest is as ever", x.soonest(1, 2, false), 1);
        Check.due("knows is as ever", x.knows(1, 0), 3);
        Check.due("afternoons are those of now", drawnFarOff(x), 0);
        Check.due("and it is still due", x.window(0, 7), 1);
    }

    /** By seed 0 a WINDOW 7 is drawn first: only the WIND comes. */
    private static int drawnFarOff(ShutterTown x) {
        x.seed(0);
        return x.afternoons(1);
    }
}
