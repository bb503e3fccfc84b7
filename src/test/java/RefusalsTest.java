import java.util.function.Supplier;
import java.util.function.ToLongFunction;

/**
 * What the terms say of every call: which refusal it answers, that what is refused changes nothing,
 * and that what only tells changes nothing.
 */
public final class RefusalsTest {
    private static final int UNKNOWN = ShutterTown.UNKNOWN;
    private static final int OUTSIDE = ShutterTown.OUTSIDE;
    private static final int STATE = ShutterTown.STATE;
    private static final int FULL = ShutterTown.FULL;

    /** 0 PLAIN, 1 DEAF, 2 LOOSE, 3 DEAD, 4 PLAIN, 5 LOOSE. */
    private static final String SIX = "S01231W00000W01011W10022W11033W20020W21012";

    private static Supplier<ShutterTown> scene;

    public static void main(String[] args) {
        scene = RefusalsTest::full;
        firstNamed();
        whatIsFull();
        refusedEverywhere(6);
        refusedWithWindows();
        tellingAlone();
        scene = RefusalsTest::halfWay;
        refusedEverywhere(2);
        notKept();
        tellingAlone();
        scene = ShutterTown::new;
        refusedEverywhere(0);
        notKept();
        noAct();
        tellingAlone();
        theScenesAreUnlike();
        Check.end("RefusalsTest");
    }

    /** All rows are full: 48 letters, 6 WINDOWS, 14 ACTS, 6 FOLLOWED, both SLOTS. */
    private static ShutterTown full() {
        ShutterTown x = new ShutterTown();
        Check.write(x, SIX);
        x.town();
        x.seed(77);
        x.pass(0, 1);
        x.keep(0);
        for (int act = 0; act < 5; act++) {
            x.hour();
            x.move(0, 1 + act % 3);
            x.wind();
            x.pass(4, act % 2 == 0 ? 3 : 5);
        }
        x.pass(2, 3);
        x.keep(1);
        x.pass(0, 3);
        for (int many = 0; many < 6; many++) {
            x.follow(many % 4, many % 4, many % 2 == 0);
        }
        Check.write(x, "W9 ??!");
        return x;
    }

    /** Two WINDOWS, three ACTS, one that is due, SLOT 1 alone, and another TOWN as THE TEXT. */
    private static ShutterTown halfWay() {
        ShutterTown x = new ShutterTown();
        Check.write(x, "S10329W00002W91010");
        x.town();
        x.seed(-5);
        x.wind();
        x.keep(1);
        x.hour();
        x.pass(0, 1);
        x.follow(2, 3, false);
        x.wipe();
        Check.write(x, "S33335W40033");
        return x;
    }

    private static void refused(String call, ToLongFunction<ShutterTown> ask, int due) {
        Check.due(call, ask.applyAsLong(scene.get()), due);
        Check.isTrue(call + " changed nothing", Trace.of(scene).equals(Trace.of(() -> behind(ask))));
    }

    private static ShutterTown behind(ToLongFunction<ShutterTown> ask) {
        ShutterTown x = scene.get();
        ask.applyAsLong(x);
        return x;
    }

    private static void tells(String call, ToLongFunction<ShutterTown> ask) {
        long first = ask.applyAsLong(scene.get());
        Check.due(call + " told again", ask.applyAsLong(behind(ask)), first);
        Check.isTrue(call + " changed nothing", Trace.of(scene).equals(Trace.of(() -> behind(ask))));
    }

    private static void firstNamed() {
        Check.says("REFUSALS, of several the first that a call names:");
        refused("window(6, 8)", x -> x.window(6, 8), UNKNOWN);
        refused("move(6, 4)", x -> x.move(6, 4), UNKNOWN);
        refused("move(3, 4), DEAD", x -> x.move(3, 4), OUTSIDE);
        refused("pass(3, 6), DEAD", x -> x.pass(3, 6), UNKNOWN);
        refused("pass(6, 3)", x -> x.pass(6, 3), UNKNOWN);
        refused("soonest(6, 6)", x -> x.soonest(6, 6, false), UNKNOWN);
        refused("knows(6, 10)", x -> x.knows(6, 10), UNKNOWN);
        refused("cut(6, 6)", x -> x.cut(6, 6), UNKNOWN);
        refused("will(6, 4, 4)", x -> x.will(6, 4, 4), UNKNOWN);
        refused("will(6, 0, 0)", x -> x.will(6, 0, 0), UNKNOWN);
        refused("cross(6, 6)", x -> x.cross(6, 6), UNKNOWN);
        refused("slams(6, 4, 11), above", x -> x.slams(6, 4, 11, true), UNKNOWN);
        refused("slams(6, 4, 11), below", x -> x.slams(6, 4, 11, false), UNKNOWN);
        refused("write(256) when full", x -> x.write(256), OUTSIDE);
        refused("follow(4, 0) when full", x -> x.follow(4, 0, true), OUTSIDE);
        refused("follow(0, 4) when full", x -> x.follow(0, 4, true), OUTSIDE);
    }

    private static void whatIsFull() {
        Check.says("OUTSIDE (another number is not as told), STATE (as told), FULL.");
        refused("write when full", x -> x.write('W'), FULL);
        refused("write(0) when full", x -> x.write(0), FULL);
        refused("follow when full", x -> x.follow(0, 0, true), FULL);
        refused("follow when full, not surely", x -> x.follow(3, 3, false), FULL);
        refused("town() with a fault", ShutterTown::town, STATE);
    }

    private static void refusedEverywhere(int windows) {
        Check.says("What is refused changes nothing.");
        refused("write(-1)", x -> x.write(-1), OUTSIDE);
        refused("write(256)", x -> x.write(256), OUTSIDE);
        refused("window beyond", x -> x.window(windows, 0), UNKNOWN);
        refused("move beyond", x -> x.move(windows, 1), UNKNOWN);
        refused("move(-1, 1)", x -> x.move(-1, 1), UNKNOWN);
        refused("pass beyond", x -> x.pass(windows, 0), UNKNOWN);
        refused("pass from beyond", x -> x.pass(0, windows), UNKNOWN);
        refused("soonest beyond", x -> x.soonest(0, windows, true), UNKNOWN);
        refused("knows beyond", x -> x.knows(windows, 1), UNKNOWN);
        refused("toTell beyond", x -> x.toTell(1 << windows), OUTSIDE);
        refused("toTell(-1)", x -> x.toTell(-1), OUTSIDE);
        refused("cut beyond", x -> x.cut(windows, 0), UNKNOWN);
        refused("judge(0, 0)", x -> x.judge(0, 0), OUTSIDE);
        refused("judge(6, 0)", x -> x.judge(6, 0), OUTSIDE);
        refused("judge(1, -1)", x -> x.judge(1, -1), OUTSIDE);
        refused("judge(1, 100)", x -> x.judge(1, 100), OUTSIDE);
        refused("follow(-1, 0)", x -> x.follow(-1, 0, true), OUTSIDE);
        refused("follow(0, -1)", x -> x.follow(0, -1, false), OUTSIDE);
        refused("will beyond", x -> x.will(windows, 0, 1), UNKNOWN);
        refused("cross beyond", x -> x.cross(windows, 0), UNKNOWN);
        refused("rests(-1)", x -> x.rests(-1), OUTSIDE);
        refused("rests(2)", x -> x.rests(2), OUTSIDE);
        refused("slams beyond", x -> x.slams(windows, 0, 0, true), UNKNOWN);
        refused("afternoons(0)", x -> x.afternoons(0), OUTSIDE);
        refused("afternoons(31)", x -> x.afternoons(31), OUTSIDE);
        refused("keep(-1)", x -> x.keep(-1), UNKNOWN);
        refused("keep(2)", x -> x.keep(2), UNKNOWN);
        refused("again(-1)", x -> x.again(-1), UNKNOWN);
        refused("again(2)", x -> x.again(2), UNKNOWN);
        refused("count(-1)", x -> x.count(-1), OUTSIDE);
        refused("count(9)", x -> x.count(9), OUTSIDE);
    }

    private static void refusedWithWindows() {
        Check.says("What is refused changes nothing.");
        refused("window(0, -1)", x -> x.window(0, -1), OUTSIDE);
        refused("window(0, 8)", x -> x.window(0, 8), OUTSIDE);
        refused("move(0, -1)", x -> x.move(0, -1), OUTSIDE);
        refused("move(0, 4)", x -> x.move(0, 4), OUTSIDE);
        refused("move of a DEAD one", x -> x.move(3, 0), STATE);
        refused("move as it is", x -> x.move(1, 1), STATE);
        refused("pass by a DEAD one", x -> x.pass(3, 4), STATE);
        refused("pass of one that is not seen", x -> x.pass(0, 5), STATE);
        refused("pass of itself", x -> x.pass(1, 1), STATE);
        refused("soonest of one", x -> x.soonest(5, 5, true), OUTSIDE);
        refused("knows(0, -1)", x -> x.knows(0, -1), OUTSIDE);
        refused("knows(0, 10)", x -> x.knows(0, 10), OUTSIDE);
        refused("cut of one", x -> x.cut(5, 5), OUTSIDE);
        refused("will(0, 4, 0)", x -> x.will(0, 4, 0), OUTSIDE);
        refused("will(0, 0, 4)", x -> x.will(0, 0, 4), OUTSIDE);
        refused("will(0, 2, 2)", x -> x.will(0, 2, 2), OUTSIDE);
        refused("cross of one", x -> x.cross(5, 5), OUTSIDE);
        refused("slams(0, 4, 0), above", x -> x.slams(0, 4, 0, true), OUTSIDE);
        refused("slams(0, 0, 11), below", x -> x.slams(0, 0, 11, false), OUTSIDE);
        refused("slams(0, -1, 0), below", x -> x.slams(0, -1, 0, false), OUTSIDE);
        refused("slams(0, 0, -1), above", x -> x.slams(0, 0, -1, true), OUTSIDE);
    }

    private static void notKept() {
        Check.says("UNKNOWN; STATE: none were kept.");
        refused("again(0)", x -> x.again(0), STATE);
    }

    private static void noAct() {
        Check.says("STATE: there is none.");
        refused("undo()", ShutterTown::undo, STATE);
        Check.says("STATE: a FAULT.");
        refused("town() of an empty text", ShutterTown::town, STATE);
    }

    private static void tellingAlone() {
        Check.says("In what follows nothing is changed;");
        tells("fault()", ShutterTown::fault);
        tells("window(0, 3)", x -> x.window(0, 3));
        tells("count(8)", x -> x.count(8));
        tells("soonest(0, 1, true)", x -> x.soonest(0, 1, true));
        tells("soonest(1, 0, false)", x -> x.soonest(1, 0, false));
        tells("knows(0, 9)", x -> x.knows(0, 9));
        tells("toTell(0)", x -> x.toTell(0));
        tells("toTell(3)", x -> x.toTell(3));
        tells("cut(0, 1)", x -> x.cut(0, 1));
        tells("judge(1, 91)", x -> x.judge(1, 91));
        tells("judge(5, 9190010090)", x -> x.judge(5, 9190010090L));
        tells("codes(false)", x -> x.codes(false));
        tells("codes(true)", x -> x.codes(true));
        tells("look()", ShutterTown::look);
        tells("will(0, 0, 1)", x -> x.will(0, 0, 1));
        tells("cross(0, 1)", x -> x.cross(0, 1));
        tells("rests(0)", x -> x.rests(0));
        tells("rests(1)", x -> x.rests(1));
        tells("slams(0, 1, 5, true)", x -> x.slams(0, 1, 5, true));
        Check.says("(Nothing changes but THE SEED.)");
        Check.isTrue("afternoons(30) changed THE SEED alone",
            Trace.withoutSeed(scene).equals(Trace.withoutSeed(() -> behind(x -> x.afternoons(30)))));
    }

    /** So that a trace that tells too little is seen here. */
    private static void theScenesAreUnlike() {
        scene = RefusalsTest::full;
        Check.isTrue("a WIND is seen", seen(ShutterTown::wind));
        Check.isTrue("an HOUR is seen", seen(ShutterTown::hour));
        Check.isTrue("an undo is seen", seen(ShutterTown::undo));
        Check.isTrue("a pass is seen", seen(x -> x.pass(4, 3)));
        Check.isTrue("a keep is seen", seen(x -> x.keep(0)));
        Check.isTrue("an again is seen", seen(x -> x.again(1)));
        Check.isTrue("a wipe is seen", seen(ShutterTown::wipe));
        Check.isTrue("an unfollow is seen", seen(ShutterTown::unfollow));
        Check.isTrue("a seed is seen", seen(x -> x.seed(0)));
        Check.isTrue("an afternoon is seen", seen(x -> x.afternoons(1)));
    }

    private static boolean seen(ToLongFunction<ShutterTown> ask) {
        return !Trace.of(scene).equals(Trace.of(() -> behind(ask)));
    }
}
