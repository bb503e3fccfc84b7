import java.util.ArrayList;
import java.util.List;
import java.util.function.Consumer;
import java.util.function.Supplier;

/**
 * All that can be told of an object: what its calls answer along several paths, each on an object of its own
 * (some of the calls change it, and an object answers 512 calls). Two objects are alike if their traces are.
 */
final class Trace {
    private final Supplier<ShutterTown> maker;
    private final List<Long> answers = new ArrayList<>();

    private Trace(Supplier<ShutterTown> maker) {
        this.maker = maker;
    }

    /** Of all but THE SEED. */
    static List<Long> withoutSeed(Supplier<ShutterTown> maker) {
        Trace trace = new Trace(maker);
        trace.along(trace::all);
        trace.along(trace::undone);
        trace.along(x -> trace.goneOnFrom(x, 0));
        trace.along(x -> trace.goneOnFrom(x, 1));
        trace.along(trace::followedOn);
        trace.along(trace::writtenOn);
        trace.along(trace::takenAsTown);
        return trace.answers;
    }

    static List<Long> of(Supplier<ShutterTown> maker) {
        List<Long> answers = withoutSeed(maker);
        answers.add(maker.get().seed(1));
        return answers;
    }

    private void along(Consumer<ShutterTown> path) {
        path.accept(maker.get());
    }

    private void all(ShutterTown x) {
        for (int what = 0; what <= 8; what++) {
            answers.add((long) x.count(what));
        }
        for (int window = 0; window < 6; window++) {
            for (int what = 0; what <= 7; what++) {
                answers.add((long) x.window(window, what));
            }
        }
        answers.add((long) x.fault());
        answers.add((long) x.codes(true));
        answers.add((long) x.look());
    }

    private void shutters(ShutterTown x) {
        for (int window = 0; window < 6; window++) {
            answers.add((long) x.window(window, 3));
            answers.add((long) x.window(window, 7));
        }
        answers.add((long) x.count(3));
        answers.add((long) x.count(6));
    }

    private void undone(ShutterTown x) {
        for (int act = 0; act < 15; act++) {
            answers.add((long) x.undo());
            shutters(x);
        }
    }

    private void goneOnFrom(ShutterTown x, int slot) {
        answers.add((long) x.again(slot));
        shutters(x);
        answers.add((long) x.undo());
    }

    private void followedOn(ShutterTown x) {
        answers.add((long) x.follow(3, 3, false));
        answers.add((long) x.codes(false));
        answers.add((long) x.unfollow());
        answers.add((long) x.codes(false));
    }

    private void writtenOn(ShutterTown x) {
        answers.add((long) x.write('W'));
        answers.add((long) x.fault());
        answers.add((long) x.wipe());
        answers.add((long) x.fault());
    }

    private void takenAsTown(ShutterTown x) {
        answers.add((long) x.town());
        all(x);
    }
}
