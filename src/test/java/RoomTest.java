import java.lang.reflect.Array;
import java.lang.reflect.Field;
import java.lang.reflect.Modifier;
import java.util.Collections;
import java.util.IdentityHashMap;
import java.util.Set;

/** All calls of one run live in one room: an object is made of few others, and is of as many behind its calls. */
public final class RoomTest {
    private static final int MOST_OBJECTS = 40;
    private static final int MOST_NUMBERS = 700;

    private final Set<Object> objects = Collections.newSetFromMap(new IdentityHashMap<>());
    private int numbers = 0;

    public static void main(String[] args) throws IllegalAccessException {
        ShutterTown x = new ShutterTown();
        RoomTest before = of(x);
        Check.isTrue("few objects: " + before.objects.size(), before.objects.size() <= MOST_OBJECTS);
        Check.isTrue("few fields and elements: " + before.numbers, before.numbers <= MOST_NUMBERS);
        useAll(x);
        RoomTest behind = of(x);
        Check.isTrue("the same objects behind all calls", behind.objects.equals(before.objects));
        Check.due("fields and elements behind all calls", behind.numbers, before.numbers);
        Check.end("RoomTest");
    }

    private static RoomTest of(ShutterTown x) throws IllegalAccessException {
        RoomTest room = new RoomTest();
        room.enter(x);
        return room;
    }

    private void enter(Object object) throws IllegalAccessException {
        if (object == null || !objects.add(object)) {
            return;
        }
        if (object.getClass().isArray()) {
            numbers += Array.getLength(object);
            return;
        }
        for (Field field : object.getClass().getDeclaredFields()) {
            if (!Modifier.isStatic(field.getModifiers())) {
                numbers++;
                field.setAccessible(true);
                if (!field.getType().isPrimitive()) {
                    enter(field.get(object));
                }
            }
        }
    }

    private static void useAll(ShutterTown x) {
        Check.write(x, Towns.ring("012012"));
        x.fault();
        x.town();
        x.window(0, 6);
        for (int act = 0; act < 20; act++) {
            x.move(act % 6, act % 4);
            x.pass(act % 6, (act + 1) % 6);
            x.wind();
            x.hour();
        }
        x.undo();
        x.soonest(0, 5, true);
        x.knows(0, 9);
        x.toTell(63);
        x.cut(0, 5);
        x.judge(5, 9091909190L);
        for (int many = 0; many < 7; many++) {
            x.follow(many % 4, 0, many % 2 == 0);
        }
        x.codes(true);
        x.look();
        x.unfollow();
        x.will(0, 0, 1);
        x.cross(0, 5);
        x.rests(1);
        x.slams(0, 0, 5, true);
        x.seed(1);
        x.afternoons(30);
        x.keep(0);
        x.keep(1);
        x.again(0);
        x.count(8);
        x.wipe();
    }
}
