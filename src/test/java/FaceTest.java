import java.lang.reflect.Constructor;
import java.lang.reflect.Field;
import java.lang.reflect.Member;
import java.lang.reflect.Method;
import java.lang.reflect.Modifier;
import java.util.Arrays;
import java.util.Set;
import java.util.TreeSet;

/** The public face: what the document names and nothing else. */
public final class FaceTest {
    private static final String[] METHODS = {
        "int write(int)", "int wipe()", "int fault()", "int town()", "int window(int,int)",
        "int move(int,int)", "int wind()", "int pass(int,int)", "int hour()", "int undo()",
        "int soonest(int,int,boolean)", "int knows(int,int)", "int toTell(int)", "int cut(int,int)",
        "int judge(int,long)", "int follow(int,int,boolean)", "int unfollow()", "int codes(boolean)",
        "int look()", "int will(int,int,int)", "int cross(int,int)", "int rests(int)",
        "int slams(int,int,int,boolean)", "long seed(long)", "int afternoons(int)", "int keep(int)",
        "int again(int)", "int count(int)"};

    public static void main(String[] args) throws Exception {
        constants();
        members();
        objectsAreApart();
        Check.end("FaceTest");
    }

    private static void constants() throws Exception {
        String[] names = {"UNKNOWN", "OUTSIDE", "STATE", "FULL", "NONE"};
        int[] values = {-1, -2, -3, -4, -9};
        Set<String> open = new TreeSet<>();
        for (Field field : ShutterTown.class.getDeclaredFields()) {
            if (!Modifier.isPrivate(field.getModifiers())) {
                open.add(field.getName());
            }
        }
        Check.isTrue("the constants are those: " + open, open.equals(new TreeSet<>(Arrays.asList(names))));
        for (int at = 0; at < names.length; at++) {
            Field field = ShutterTown.class.getField(names[at]);
            Check.isTrue(names[at] + " is a constant", Modifier.isStatic(field.getModifiers())
                && Modifier.isFinal(field.getModifiers()) && field.getType() == int.class);
            Check.due(names[at], field.getInt(null), values[at]);
        }
    }

    private static void members() {
        Set<String> open = new TreeSet<>();
        Set<String> hidden = new TreeSet<>();
        for (Method method : ShutterTown.class.getDeclaredMethods()) {
            boolean isHidden = Modifier.isPrivate(method.getModifiers()) || method.isSynthetic();
            (isHidden ? hidden : open).add(isHidden ? method.getName() : signature(method));
        }
        Check.isTrue("the methods are those: " + open, open.equals(new TreeSet<>(Arrays.asList(METHODS))));
        for (Method method : ShutterTown.class.getDeclaredMethods()) {
            if (Modifier.isPublic(method.getModifiers())) {
                Check.isTrue("no hidden " + method.getName(), !hidden.contains(method.getName()));
            }
        }
        Constructor<?>[] made = ShutterTown.class.getDeclaredConstructors();
        Check.isTrue("one public constructor without arguments", made.length == 1
            && Modifier.isPublic(made[0].getModifiers()) && made[0].getParameterCount() == 0);
        int modifiers = ShutterTown.class.getModifiers();
        Check.isTrue("the class is public and final", Modifier.isPublic(modifiers) && Modifier.isFinal(modifiers));
        for (Class<?> inside : ShutterTown.class.getDeclaredClasses()) {
            Check.isTrue(inside.getName() + " is static and not public",
                Modifier.isStatic(inside.getModifiers()) && !Modifier.isPublic(inside.getModifiers())
                && !Modifier.isProtected(inside.getModifiers()));
        }
    }

    private static String signature(Method method) {
        Member member = method;
        StringBuilder told = new StringBuilder();
        told.append(method.getReturnType().getName()).append(' ').append(member.getName()).append('(');
        Class<?>[] types = method.getParameterTypes();
        for (int at = 0; at < types.length; at++) {
            told.append(at == 0 ? "" : ",").append(types[at].getName());
        }
        return told.append(')').toString();
    }

    private static void objectsAreApart() {
        ShutterTown one = Check.town("S32109W00000W01012");
        ShutterTown other = new ShutterTown();
        one.wind();
        one.follow(0, 0, true);
        one.seed(5);
        one.keep(0);
        Check.due("another object: no windows", other.count(1), 0);
        Check.due("another object: its words", other.count(4), 123);
        Check.due("another object: no acts", other.count(6), 0);
        Check.due("another object: nothing followed", other.codes(false), 256);
        Check.due("another object: its seed", other.seed(0), 0);
        Check.due("another object: nothing kept", other.again(0), -3);
    }
}
