/** Promises 12 to 16: soonest, knows, toTell, cut, judge. */
public final class WaysTest {
    public static void main(String[] args) {
        soonestWays();
        refusalsOfTwo();
        knowing();
        telling();
        cutting();
        judging();
        judgingWhatIsDue();
        judgingEdges();
        Check.end("WaysTest");
    }

    private static void soonestOf(String kinds, int from, int to, int hours, int way) {
        ShutterTown x = Check.town(Towns.ring(kinds));
        String call = kinds + ": soonest(" + from + ", " + to + ", ";
        Check.due(call + "false)", x.soonest(from, to, false), hours);
        Check.due(call + "true)", x.soonest(from, to, true), way);
    }

    private static void soonestWays() {
        soonestOf("000000", 0, 1, 0, 12);
        soonestOf("000000", 1, 0, 0, 21);
        soonestOf("000000", 0, 2, 1, 123);
        soonestOf("000000", 2, 0, 1, 321);
        soonestOf("000000", 0, 4, 1, 145);
        soonestOf("000000", 0, 5, 2, 1236);
        soonestOf("000000", 5, 0, 2, 6321);
        soonestOf("000300", 0, 4, 3, 12365);
        soonestOf("000000", 1, 3, 1, 214);
        soonestOf("001000", 1, 3, 0, 234);
        soonestOf("003000", 1, 5, 3, 21456);
        soonestOf("222222", 0, 4, 1, 145);
        soonestOf("011001", 0, 4, 0, 12365);
        soonestOf("011101", 0, 4, 0, 145);
        soonestOf("000100", 0, 2, 0, 143);
        soonestOf("000001", 0, 4, 1, 145);
        soonestOf("010001", 0, 4, 1, 145);
        soonestOf("300030", 0, 4, 1, 145);
        soonestOf("330330", 0, 4, -9, -9);
        soonestOf("330330", 0, 1, 0, 12);
        soonestOf("030300", 4, 0, -9, -9);
        ShutterTown apart = Check.town("S01231W00000W51000");
        Check.due("apart", apart.soonest(0, 1, false), -9);
        Check.due("apart, the way", apart.soonest(0, 1, true), -9);
        ShutterTown line = Check.town("S01231W00000W51001W40000W31000W20000W11000");
        Check.due("six windows", line.soonest(0, 1, true), 165432);
        Check.due("six windows back", line.soonest(1, 0, true), 234561);
        Check.due("six windows, hours", line.soonest(0, 1, false), 4);
        line.pass(3, 2);
        Check.due("what is due does not count", line.soonest(0, 1, false), 4);
        Check.due("nothing is changed", line.count(5) * 10 + line.count(6), 11);
    }

    private static void refusalsOfTwo() {
        ShutterTown x = Check.town(Towns.ring("000000"));
        int[][] unknown = {{-1, 0}, {0, -1}, {6, 0}, {0, 6}, {6, 6}, {Integer.MIN_VALUE, Integer.MAX_VALUE}};
        for (int[] two : unknown) {
            Check.due("soonest unknown, way", x.soonest(two[0], two[1], true), -1);
            Check.due("soonest unknown, hours", x.soonest(two[0], two[1], false), -1);
            Check.due("cut unknown", x.cut(two[0], two[1]), -1);
        }
        Check.due("soonest(3, 3, true)", x.soonest(3, 3, true), -2);
        Check.due("soonest(3, 3, false)", x.soonest(3, 3, false), -2);
        Check.due("cut(3, 3)", x.cut(3, 3), -2);
    }

    private static void knowing() {
        ShutterTown plain = Check.town(Towns.ring("000000"));
        Check.due("knows(0, 0)", plain.knows(0, 0), 11);
        Check.due("knows(0, 1)", plain.knows(0, 1), 31);
        Check.due("knows(0, 2)", plain.knows(0, 2), 63);
        Check.due("knows(0, 9)", plain.knows(0, 9), 63);
        Check.due("knows(5, 0)", plain.knows(5, 0), 52);
        Check.due("knows(1, 1) by way of 0", Check.town(Towns.ring("003000")).knows(1, 1), 15);
        Check.due("knows(0, 10)", plain.knows(0, 10), -2);
        Check.due("knows(0, -1)", plain.knows(0, -1), -2);
        Check.due("knows(6, 0)", plain.knows(6, 0), -1);
        Check.due("knows(-1, 10)", plain.knows(-1, 10), -1);
        ShutterTown deaf = Check.town(Towns.ring("011000"));
        Check.due("deaf: knows(0, 0)", deaf.knows(0, 0), 47);
        Check.due("deaf: knows(0, 1)", deaf.knows(0, 1), 63);
        ShutterTown dead = Check.town(Towns.ring("330300"));
        Check.due("dead ones read, and do not pass on", dead.knows(0, 9), 11);
        Check.due("a dead one's own", Check.town("S01231W00003").knows(0, 0), 1);
    }

    private static void telling() {
        ShutterTown x = Check.town(Towns.ring("000000"));
        Check.due("toTell(63)", x.toTell(63), 12);
        Check.due("toTell(7)", x.toTell(7), 2);
        Check.due("toTell(15)", x.toTell(15), 3);
        Check.due("toTell(59)", x.toTell(59), 17);
        Check.due("toTell(1)", x.toTell(1), -9);
        Check.due("toTell(0)", x.toTell(0), 0);
        Check.due("toTell(64)", x.toTell(64), -2);
        Check.due("toTell(-1)", x.toTell(-1), -2);
        Check.due("toTell(most)", x.toTell(Integer.MAX_VALUE), -2);
        Check.due("dead ones show, too", Check.town("S01231W00003W01003").toTell(3), 1);
        Check.due("one that nobody sees", Check.town("S01231W00000").toTell(1), 1);
        Check.due("two of one", Check.town("S01231W00000").toTell(2), -2);
        Check.due("all of none", new ShutterTown().toTell(0), 0);
        Check.due("one of none", new ShutterTown().toTell(1), -2);
    }

    private static void cutOf(String kinds, int from, int to, int want) {
        Check.due(kinds + ": cut(" + from + ", " + to + ")", Check.town(Towns.ring(kinds)).cut(from, to), want);
    }

    private static void cutting() {
        cutOf("000000", 0, 4, 10);
        cutOf("000000", 4, 0, 10);
        cutOf("000000", 0, 2, 10);
        cutOf("000000", 1, 4, 5);
        cutOf("000000", 0, 1, -9);
        cutOf("000300", 0, 4, 2);
        cutOf("030000", 0, 4, 8);
        cutOf("030300", 0, 4, 0);
        cutOf("300030", 0, 4, 10);
        cutOf("330330", 0, 1, -9);
        cutOf("111111", 0, 5, 10);
    }

    private static void judging() {
        ShutterTown x = Check.town("S01231W00000W01010W10022");
        Check.due("judge(1, 01)", x.judge(1, 1), 0);
        Check.due("judge(1, 02)", x.judge(1, 2), -9);
        Check.due("judge(1, 03)", x.judge(1, 3), -9);
        Check.due("judge(1, 00)", x.judge(1, 0), 0);
        Check.due("judge(1, 04)", x.judge(1, 4), 0);
        Check.due("judge(2, 0213)", x.judge(2, 213), -9);
        Check.due("judge(2, 0202)", x.judge(2, 202), 1);
        Check.due("judge(2, 9013)", x.judge(2, 9013), 1);
        Check.due("judge(2, 9090)", x.judge(2, 9090), -9);
        Check.due("judge(3, 909013)", x.judge(3, 909013), -9);
        Check.due("judge(3, 901313)", x.judge(3, 901313), 1);
        Check.due("judge(1, 92)", x.judge(1, 92), 0);
        Check.due("judge(1, 99)", x.judge(1, 99), 0);
        Check.due("judge(1, 30)", x.judge(1, 30), 0);
        Check.due("judge(5, 9190919090)", x.judge(5, 9190919090L), -9);
        Check.due("judge(5, 9190919099)", x.judge(5, 9190919099L), 4);
        Check.due("judge(4, 91909180)", x.judge(4, 91909180L), 3);
        Check.due("nothing is changed", x.window(2, 3) * 10 + x.count(6), 20);
        Check.due("the hour stays", x.count(3), 0);
    }

    private static void judgingWhatIsDue() {
        ShutterTown x = Check.town("S01231W00000W01010W10022");
        x.pass(0, 1);
        Check.due("due: judge(1, 91)", x.judge(1, 91), 0);
        Check.due("due: judge(1, 90)", x.judge(1, 90), -9);
        Check.due("due: judge(2, 1391)", x.judge(2, 1391), -9);
        Check.due("due: judge(3, 139111)", x.judge(3, 139111), 2);
        Check.due("due: it is passed on once", x.judge(5, 1391021191L), -9);
        Check.due("it is still due", x.window(0, 7), 1);
        Check.due("its state stays", x.window(0, 3), 0);
        Check.due("acts", x.count(6), 1);
        Check.due("the hour", x.count(3), 0);
    }

    private static void judgingEdges() {
        ShutterTown alike = Check.town("S01231W00000W01000");
        Check.due("alike at first, mended", alike.judge(1, 1), -9);
        Check.due("alike still", alike.judge(1, 90), 0);
        Check.due("alike behind an hour", alike.judge(1, 91), 0);
        Check.due("a dead one", Check.town("S01231W00003W01010").judge(1, 2), 0);
        Check.due("two states, one word", Check.town("S01131W00000W01010").judge(1, 2), 0);
        ShutterTown x = new ShutterTown();
        Check.due("judge(0, 0)", x.judge(0, 0), -2);
        Check.due("judge(6, 0)", x.judge(6, 0), -2);
        Check.due("judge(least, 0)", x.judge(Integer.MIN_VALUE, 0), -2);
        Check.due("judge(1, -1)", x.judge(1, -1), -2);
        Check.due("judge(1, 100)", x.judge(1, 100), -2);
        Check.due("judge(1, 99)", x.judge(1, 99), 0);
        Check.due("judge(5, 9999999999)", x.judge(5, 9999999999L), 0);
        Check.due("judge(5, 10000000000)", x.judge(5, 10000000000L), -2);
        Check.due("judge(5, most)", x.judge(5, Long.MAX_VALUE), -2);
        Check.due("judge(5, least)", x.judge(5, Long.MIN_VALUE), -2);
        Check.due("judge(5, 9190919091)", x.judge(5, 9190919091L), -9);
    }
}
