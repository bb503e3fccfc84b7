import java.math.BigInteger;

/** Sentence by sentence the edges of promises 22 to 26 and of what part 3 of the terms says of them. */
public final class EdgesOfChancesTest {
    private static final int NONE = ShutterTown.NONE;
    private static final int UNKNOWN = ShutterTown.UNKNOWN;
    private static final int OUTSIDE = ShutterTown.OUTSIDE;
    private static final long TIMES = 6364136223846793005L;
    private static final long MORE = 1442695040888963407L;

    public static void main(String[] args) {
        crossRefused();
        crossNone();
        crossNeverComes();
        crossAtHours();
        crossTheFirstHour();
        restsRefused();
        restsOfNone();
        restsOfOne();
        restsOnOneWindow();
        slamsRefused();
        slamsByTenths();
        slamsOnLeaves();
        slamsInLeastTerms();
        slamsOfNone();
        seeds();
        seedWraps();
        afternoonsRefused();
        afternoonsOnceToThirty();
        whatIsDrawn();
        onlyTheSeedChanges();
        Check.end("EdgesOfChancesTest");
    }

    private static void crossOf(String text, int one, int other, int want) {
        ShutterTown x = Check.town(text);
        Check.due(text + ": cross(" + one + ", " + other + ")", x.cross(one, other), want);
        Check.due(text + ": cross(" + other + ", " + one + ")", x.cross(other, one), want);
    }

    private static void crossRefused() {
        Check.says("CROSS; NONE. UNKNOWN: both; OUTSIDE: both are one.");
        ShutterTown x = Check.town(Towns.line("013"));
        for (int window = 0; window < 3; window++) {
            Check.due("both are " + window, x.cross(window, window), OUTSIDE);
        }
        Check.due("both are one that is not there", x.cross(3, 3), UNKNOWN);
        Check.due("both are -1", x.cross(-1, -1), UNKNOWN);
        Check.due("the other is not there", x.cross(0, 3), UNKNOWN);
        Check.due("the one is not there", x.cross(-1, 0), UNKNOWN);
    }

    private static void crossNone() {
        Check.says("NONE: none, or one never comes.");
        crossOf(Towns.line("00"), 0, 1, NONE);
        crossOf(Towns.line("11"), 0, 1, NONE);
        crossOf(Towns.line("0000"), 0, 3, NONE);
        crossOf(Towns.line("000000"), 0, 5, NONE);
        crossOf(Towns.line("0100"), 0, 3, 1);
    }

    private static void crossNeverComes() {
        Check.says("or one never comes.");
        crossOf(Towns.apart(2), 0, 1, NONE);
        crossOf(Towns.line("030"), 0, 2, NONE);
        crossOf(Towns.line("010300"), 0, 5, NONE);
        crossOf(Towns.line("303"), 0, 2, 1);
    }

    private static void crossAtHours() {
        Check.says("(one HOUR later than the one before, if it is not DEAF)");
        crossOf(Towns.line("000"), 0, 2, 1);
        crossOf(Towns.line("010"), 0, 2, 0);
        crossOf(Towns.line("020"), 0, 2, 1);
        crossOf(Towns.line("00000"), 0, 4, 2);
        crossOf(Towns.line("01010"), 0, 4, 1);
        crossOf("S01231W00000W01000W11000", 1, 2, 1);
        crossOf("S01231W00001W01000W11000", 1, 2, 0);
    }

    private static void crossTheFirstHour() {
        Check.says("the first HOUR at which one of them would have to say both;");
        crossOf(Towns.line("01110"), 0, 4, 0);
        crossOf(Towns.line("011110"), 0, 5, 0);
        crossOf(Towns.line("010110"), 0, 5, 1);
        crossOf(Towns.line("001010"), 0, 5, 1);
        crossOf(Towns.line("001100"), 0, 5, 1);
        crossOf(Towns.line("011100"), 0, 5, 1);
        crossOf(Towns.line("011000"), 0, 5, NONE);
        crossOf(Towns.line("000100"), 0, 5, 2);
    }

    private static void restsOf(String text, int many, int first) {
        ShutterTown x = Check.town(text);
        Check.due(text + ": rests(0)", x.rests(0), many);
        Check.due(text + ": rests(1)", x.rests(1), first);
    }

    private static void restsRefused() {
        Check.says("RESTS: how many (what = 0), the first (1); NONE. OUTSIDE.");
        int[] outside = {-1, 2, 3, Integer.MIN_VALUE, Integer.MAX_VALUE};
        for (int what : outside) {
            Check.due("no WINDOWS: rests(" + what + ")", new ShutterTown().rests(what), OUTSIDE);
            Check.due("rests(" + what + ")", Check.town(Towns.line("00")).rests(what), OUTSIDE);
        }
    }

    private static void restsOfNone() {
        Check.says("how many; the first (10 times the one and the other); NONE.");
        restsOf("S01231", 0, NONE);
        Check.due("a new object, how many", new ShutterTown().rests(0), 0);
        Check.due("a new object, the first", new ShutterTown().rests(1), NONE);
    }

    private static void restsOfOne() {
        Check.says("pairs in which neither has more by another WINDOW alone");
        restsOf(Towns.apart(1), 1, 0);
        restsOf(Towns.apart(2), 4, 0);
        restsOf(Towns.apart(6), 36, 0);
        restsOf(Towns.line("00"), 2, 1);
        restsOf("S01231W90000W00000W01000", 2, 12);
    }

    /** With both on the middle one neither has any; by an end it would have the middle one itself. */
    private static void restsOnOneWindow() {
        Check.says("(0, if both let the same one)");
        restsOf(Towns.line("000"), 4, 1);
        restsOf(Towns.line("333"), 4, 1);
    }

    private static void slamsRefused() {
        Check.says("SLAMS. UNKNOWN; OUTSIDE: word, x.");
        ShutterTown x = Check.town(Towns.line("02"));
        int[] outside = {-1, Integer.MIN_VALUE, Integer.MAX_VALUE};
        boolean[] halves = {true, false};
        Check.says("refusals of them are told likewise.");
        for (boolean upper : halves) {
            for (int number : outside) {
                Check.due("word " + number, x.slams(0, number, 5, upper), OUTSIDE);
                Check.due("x " + number, x.slams(0, 0, number, upper), OUTSIDE);
                Check.due("unknown, and outside", x.slams(2, number, number, upper), UNKNOWN);
            }
            Check.due("word 4", x.slams(0, 4, 5, upper), OUTSIDE);
            Check.due("x 11", x.slams(0, 0, 11, upper), OUTSIDE);
            Check.due("word 4 and x 11", x.slams(0, 4, 11, upper), OUTSIDE);
            Check.due("unknown", x.slams(-1, 0, 0, upper), UNKNOWN);
        }
    }

    private static void slamsOf(ShutterTown x, int word, int tenths, int above, int below) {
        String call = "slams(0, " + word + ", " + tenths + ", ";
        Check.due(call + "true)", x.slams(0, word, tenths, true), above);
        Check.due(call + "false)", x.slams(0, word, tenths, false), below);
    }

    private static void slamsByTenths() {
        Check.says("SLAMS by x tenths (0 to 10): each LOOSE one moves by wind by itself");
        ShutterTown x = Check.town(Towns.line("02"));
        int[] above = {0, 1, 1, 3, 2, 1, 3, 7, 4, 9, 1};
        int[] below = {1, 10, 5, 10, 5, 2, 5, 10, 5, 10, 1};
        for (int tenths = 0; tenths <= 10; tenths++) {
            slamsOf(x, 1, tenths, above[tenths], below[tenths]);
            slamsOf(x, 0, tenths, above[10 - tenths], below[tenths]);
            slamsOf(x, 2, tenths, 0, 1);
            slamsOf(x, 3, tenths, 0, 1);
        }
    }

    /** From WINDOW 0 and from the last one, as the left leaf is shut or open at first. */
    private static void slamsOnLeaves() {
        Check.says("each LOOSE one moves by wind by itself");
        int[] moved = {1, 0, 3, 2};
        for (int state = 0; state <= 3; state++) {
            slamsOf(Check.town(Towns.two("0123", 0, 0, state, 2)), state, 3, 7, 10);
            slamsOf(Check.town(Towns.two("0123", 0, 0, state, 2)), moved[state], 3, 3, 10);
            ShutterTown last = Check.town(Towns.two("0123", state, 2, 0, 0));
            Check.due("seen by the last: it stays", last.slams(1, state, 3, true), 7);
            Check.due("seen by the last: it moves", last.slams(1, moved[state], 3, true), 3);
        }
    }

    private static void slamsInLeastTerms() {
        Check.says("FRACTIONS are told above (upper = true), below (1 and more), in least terms;");
        ShutterTown five = Check.town("S01239W00000W01002W11002W21002W31002W41002");
        slamsOf(five, 1, 0, 0, 1);
        slamsOf(five, 1, 1, 40951, 100000);
        slamsOf(five, 1, 2, 2101, 3125);
        slamsOf(five, 1, 5, 31, 32);
        slamsOf(five, 0, 5, 31, 32);
        slamsOf(five, 1, 9, 99999, 100000);
        slamsOf(five, 1, 10, 1, 1);
        slamsOf(five, 0, 10, 0, 1);
    }

    private static void slamsOfNone() {
        Check.says("the chance that a WINDOW READS a told word (0 to 3) in some WINDOW that it SEES then");
        for (int word = 0; word <= 3; word++) {
            for (int tenths = 0; tenths <= 10; tenths++) {
                slamsOf(Check.town(Towns.apart(6)), word, tenths, 0, 1);
                slamsOf(Check.town(Towns.line("00")), word, tenths, word == 0 ? 1 : 0, 1);
                slamsOf(Check.town("S22221W00000W01002"), word, tenths, word == 2 ? 1 : 0, 1);
            }
        }
        slamsOf(Check.town("S01231W00002W01000"), 0, 5, 1, 1);
        slamsOf(Check.town("S01231W00000W01000W11002"), 0, 5, 1, 1);
    }

    private static void seeds() {
        Check.says("`long seed(long v)`: THE SEED is v: what it was.");
        ShutterTown x = new ShutterTown();
        long[] seeds = {1, -1, Long.MAX_VALUE, Long.MIN_VALUE, 1L << 31, 1L << 32, 1L << 63, 0};
        long before = 0;
        for (long seed : seeds) {
            Check.due("seed(" + seed + ")", x.seed(seed), before);
            before = seed;
        }
        Check.says("(THE SEED, a long; 0 at first)");
        Check.due("at first", new ShutterTown().seed(9), 0);
    }

    private static long drawn(long x, int times) {
        BigInteger whole = BigInteger.TWO.pow(64);
        BigInteger next = BigInteger.valueOf(x);
        for (int time = 0; time < times; time++) {
            next = next.multiply(BigInteger.valueOf(TIMES)).add(BigInteger.valueOf(MORE)).mod(whole);
        }
        return next.longValue();
    }

    private static void seedWraps() {
        Check.says("becomes x times 6364136223846793005 and 1442695040888963407 (64 bits, wrapping)");
        long[] seeds = {0, 1, 2, -1, Long.MAX_VALUE, Long.MIN_VALUE, 1L << 32, -(1L << 32)};
        int[] many = {1, 2, 29, 30};
        for (long seed : seeds) {
            for (int m : many) {
                ShutterTown x = new ShutterTown();
                x.seed(seed);
                x.afternoons(m);
                Check.due("THE SEED behind " + m + " from " + seed, x.seed(0), drawn(seed, m));
            }
        }
        ShutterTown x = new ShutterTown();
        x.afternoons(1);
        Check.due("THE SEED behind one from 0", x.seed(0), MORE);
    }

    private static void afternoonsRefused() {
        Check.says("AFTERNOONS. OUTSIDE: m.");
        ShutterTown x = Check.town(Towns.line("00"));
        x.seed(5);
        int[] outside = {-1, 0, 31, 32, Integer.MIN_VALUE, Integer.MAX_VALUE};
        for (int m : outside) {
            Check.due("afternoons(" + m + ")", x.afternoons(m), OUTSIDE);
        }
        Check.due("THE SEED stays", x.seed(0), 5);
    }

    /** All say one word whatever moves: each of the seven pairs counts, from 1 time to 30. */
    private static void afternoonsOnceToThirty() {
        Check.says("AFTERNOONS by THE SEED: m times (1 to 30)");
        String ring = Towns.ring("021003").replace("S0123", "S2222");
        for (int m = 1; m <= 30; m++) {
            Check.due("one word: afternoons(" + m + ")", Check.town(ring).afternoons(m), 7);
            Check.due("no WINDOWS: afternoons(" + m + ")", new ShutterTown().afternoons(m), 0);
        }
        ShutterTown parts = Check.town(Towns.line("222"));
        ShutterTown whole = Check.town(Towns.line("222"));
        parts.afternoons(1);
        parts.afternoons(29);
        whole.afternoons(30);
        Check.due("THE SEED goes on", parts.seed(0), whole.seed(0));
    }

    /** A seed by which that is drawn first, from the upper half or the lower half of all numbers. */
    private static long seedFor(int number, boolean negative) {
        for (long seed = 0; seed < 100000; seed++) {
            long x = seed * TIMES + MORE;
            if (x < 0 == negative && (x >>> 33) % 32 == number) {
                return seed;
            }
        }
        return -1;
    }

    /** WINDOW 0 is PLAIN, 1 LOOSE, 2 DEAD: pairs 0-1 and 1-2; by the WIND 1 says 1. */
    private static void whatIsDrawn() {
        Check.says("its upper 31 bits by 32, what is left: that by 4 (down) is a WINDOW, what is left by 4 a STATE: "
            + "MOVED, if there is such a one and it can be; each time a WIND follows");
        boolean[] halves = {true, false};
        for (int number = 0; number < 32; number++) {
            int window = number / 4;
            int state = number % 4;
            int plain = window == 0 ? state : 0;
            int loose = (window == 1 ? state : 0) ^ 1;
            int want = (plain == loose ? 1 : 0) + (loose == 2 ? 1 : 0);
            for (boolean negative : halves) {
                ShutterTown x = Check.town("S01231W00000W11002W20023");
                x.seed(seedFor(number, negative));
                Check.due("WINDOW " + window + ", STATE " + state, x.afternoons(1), want);
            }
        }
    }

    private static void onlyTheSeedChanges() {
        Check.says("(Nothing changes but THE SEED.)");
        ShutterTown x = Check.town("S01231W00002W01012W10020");
        x.pass(2, 1);
        x.afternoons(30);
        Check.due("STATES", x.window(0, 3) * 100 + x.window(1, 3) * 10 + x.window(2, 3), 12);
        Check.due("due", x.window(2, 7), 1);
        Check.due("THE HOUR", x.count(3), 0);
        Check.due("ACTS", x.count(6), 1);
        Check.due("THE SEED", x.seed(0), drawn(0, 30));
    }
}
