/** Promises 22 to 26: cross, rests, slams, seed, afternoons. */
public final class ChancesTest {
    public static void main(String[] args) {
        crossing();
        crossingByUnlikeWays();
        resting();
        slamming();
        slammingEdges();
        seeds();
        afternoonsByHand();
        Check.end("ChancesTest");
    }

    private static void crossOf(String kinds, int one, int other, int want) {
        ShutterTown x = Check.town(Towns.line(kinds));
        Check.due(kinds + ": cross(" + one + ", " + other + ")", x.cross(one, other), want);
        Check.due(kinds + ": cross(" + other + ", " + one + ")", x.cross(other, one), want);
    }

    private static void crossing() {
        crossOf("000000", 0, 1, -9);
        crossOf("000000", 0, 2, 1);
        crossOf("000000", 0, 3, -9);
        crossOf("000000", 0, 4, 2);
        crossOf("000000", 0, 5, -9);
        crossOf("010000", 0, 2, 0);
        crossOf("010000", 0, 3, 1);
        crossOf("022000", 0, 3, -9);
        crossOf("011000", 0, 4, 1);
        crossOf("010100", 0, 4, 1);
        crossOf("010110", 0, 5, 1);
        crossOf("011110", 0, 5, 0);
        crossOf("001100", 0, 5, 1);
        crossOf("003000", 0, 4, -9);
        crossOf("300030", 0, 4, 2);
        ShutterTown x = Check.town(Towns.line("000000"));
        Check.due("cross(6, 0)", x.cross(6, 0), -1);
        Check.due("cross(0, 6)", x.cross(0, 6), -1);
        Check.due("cross(-1, -1)", x.cross(-1, -1), -1);
        Check.due("cross(5, 5)", x.cross(5, 5), -2);
        Check.due("nothing is changed", x.count(6) + x.count(3) + x.count(5), 0);
    }

    /** There by 1 and 4, back by 3 and 2: each takes the first of its own soonest ways. */
    private static void crossingByUnlikeWays() {
        ShutterTown x = Check.town("S01232W50000W41101W61101W70200W30200W51300");
        Check.due("there", x.soonest(0, 5, true), 1256);
        Check.due("back", x.soonest(5, 0, true), 6431);
        Check.due("they do not meet", x.cross(0, 5), -9);
        ShutterTown one = Check.town("S01232W50000W41101W61103W70200W30200W51300");
        Check.due("one way alone", one.cross(0, 5), 1);
        Check.due("window 0 between", Check.town("S01231W00000W01010W11010").cross(1, 2), 1);
    }

    private static void restsOf(String text, int many, int first) {
        ShutterTown x = Check.town(text);
        Check.due(text + ": rests(0)", x.rests(0), many);
        Check.due(text + ": rests(1)", x.rests(1), first);
    }

    private static void resting() {
        restsOf("S01231", 0, -9);
        restsOf("S01231W00000", 1, 0);
        restsOf("S01231W00000W01000", 2, 1);
        restsOf("S01231W00000W50000", 4, 0);
        restsOf("S01231W50000W00000W01000", 2, 12);
        restsOf("S01231W00000W01000W11000", 4, 1);
        restsOf("S01231W00003W01003W11003", 4, 1);
        ShutterTown x = Check.town("S01231W00000W01000");
        Check.due("rests(-1)", x.rests(-1), -2);
        Check.due("rests(2)", x.rests(2), -2);
        Check.due("rests(most)", x.rests(Integer.MAX_VALUE), -2);
    }

    private static void slamsOf(ShutterTown x, int window, int word, int tenths, int... due) {
        String call = "slams(" + window + ", " + word + ", " + tenths + ", ";
        Check.due(call + "true)", x.slams(window, word, tenths, true), due[0]);
        Check.due(call + "false)", x.slams(window, word, tenths, false), due[1]);
    }

    private static void slamming() {
        ShutterTown one = Check.town("S01231W00000W01002");
        slamsOf(one, 0, 0, 3, 7, 10);
        slamsOf(one, 0, 1, 3, 3, 10);
        slamsOf(one, 0, 2, 3, 0, 1);
        slamsOf(one, 0, 0, 0, 1, 1);
        slamsOf(one, 0, 1, 0, 0, 1);
        slamsOf(one, 0, 0, 10, 0, 1);
        slamsOf(one, 0, 1, 10, 1, 1);
        slamsOf(one, 0, 1, 5, 1, 2);
        slamsOf(one, 0, 0, 8, 1, 5);
        slamsOf(one, 1, 0, 5, 1, 1);
        ShutterTown two = Check.town("S01231W00000W01002W11002W21002");
        slamsOf(two, 0, 1, 3, 51, 100);
        slamsOf(two, 0, 0, 3, 91, 100);
        slamsOf(two, 0, 1, 2, 9, 25);
        ShutterTown five = Check.town("S01239W00000W01002W11002W21002W31002W41002");
        slamsOf(five, 0, 1, 1, 40951, 100000);
        slamsOf(five, 0, 1, 5, 31, 32);
        slamsOf(five, 0, 0, 9, 40951, 100000);
        slamsOf(five, 0, 3, 9, 0, 1);
        slamsOf(Check.town("S01231W00002W01000"), 1, 1, 3, 3, 10);
        ShutterTown right = Check.town("S01231W00000W01032");
        slamsOf(right, 0, 3, 3, 7, 10);
        slamsOf(right, 0, 2, 3, 3, 10);
    }

    private static void slammingEdges() {
        ShutterTown alike = Check.town("S22011W00000W01002");
        slamsOf(alike, 0, 2, 3, 1, 1);
        slamsOf(alike, 0, 0, 3, 0, 1);
        ShutterTown still = Check.town("S01231W00000W01020W10013W11012W51012");
        slamsOf(still, 0, 2, 5, 1, 1);
        slamsOf(still, 0, 1, 5, 1, 2);
        slamsOf(still, 4, 0, 5, 0, 1);
        for (int half = 0; half < 2; half++) {
            boolean upper = half == 0;
            Check.due("unknown", still.slams(5, 0, 0, upper), -1);
            Check.due("unknown and outside", still.slams(-1, 4, 11, upper), -1);
            Check.due("word 4", still.slams(0, 4, 5, upper), -2);
            Check.due("word -1", still.slams(0, -1, 5, upper), -2);
            Check.due("x 11", still.slams(0, 0, 11, upper), -2);
            Check.due("x -1", still.slams(0, 0, -1, upper), -2);
        }
        Check.due("nothing is changed", still.window(3, 3) * 10 + still.count(6), 10);
    }

    private static void seeds() {
        ShutterTown x = new ShutterTown();
        Check.due("seed(most)", x.seed(Long.MAX_VALUE), 0);
        Check.due("seed(least)", x.seed(Long.MIN_VALUE), Long.MAX_VALUE);
        Check.due("seed(-1)", x.seed(-1), Long.MIN_VALUE);
        Check.due("afternoons(4) of no windows", x.afternoons(4), 0);
        Check.due("the seed behind four", x.seed(0), 7739682275686472611L);
        Check.due("afternoons(1)", x.afternoons(1), 0);
        Check.due("the seed behind one", x.seed(0), 1442695040888963407L);
        Check.due("afternoons(0)", x.afternoons(0), -2);
        Check.due("afternoons(31)", x.afternoons(31), -2);
        Check.due("afternoons(-1)", x.afternoons(-1), -2);
        Check.due("afternoons(least)", x.afternoons(Integer.MIN_VALUE), -2);
        Check.due("refused: the seed stays", x.seed(0), 0);
        Check.due("afternoons(30)", x.afternoons(30), 0);
    }

    /** From 0 are drawn: (7, 3), (2, 0), (4, 1), (5, 0), (3, 1), (6, 3), (6, 0), (1, 3). */
    private static void afternoonsByHand() {
        ShutterTown x = Check.town("S01231W00000W01010W10022W11031W20023W21012");
        int[] times = {1, 2, 3, 4, 5, 8};
        int[] pairs = {1, 2, 1, 2, 1, 2};
        for (int at = 0; at < times.length; at++) {
            x.seed(0);
            Check.due("afternoons(" + times[at] + ")", x.afternoons(times[at]), pairs[at]);
        }
        Check.due("the seed behind eight", x.seed(0), 6566661184467396264L);
        Check.due("two", x.afternoons(2), 2);
        Check.due("then one, from the same states", x.afternoons(1), 1);
        Check.due("the seed goes on", x.seed(0), -7280499659394350823L);
        long[] states = {0, 1, 2, 3, 2, 1};
        for (int window = 0; window < 6; window++) {
            Check.due("state of " + window, x.window(window, 3), states[window]);
        }
        Check.due("no act", x.count(6), 0);
        Check.due("no hour", x.count(3), 0);
    }
}
