/** What all tests of the project share: a due answer, a town from a text, the end with its exit code. */
final class Check {
    private static int wrong = 0;
    private static int asked = 0;

    private Check() {
    }

    static void due(String call, long got, long want) {
        asked++;
        if (got != want) {
            wrong++;
            System.out.println(call + " answered " + got + ", due is " + want);
        }
    }

    static void isTrue(String what, boolean holds) {
        due(what, holds ? 1 : 0, 1);
    }

    static void write(ShutterTown town, String text) {
        for (int at = 0; at < text.length(); at++) {
            town.write(text.charAt(at));
        }
    }

    /** A new object whose TOWN is the text. */
    static ShutterTown town(String text) {
        ShutterTown town = new ShutterTown();
        write(town, text);
        due("town() of " + text, town.town(), text.length() / 6 - 1);
        return town;
    }

    static void end(String test) {
        System.out.println(test + ": " + asked + " answers, " + wrong + " not as due");
        if (wrong != 0) {
            System.exit(1);
        }
    }
}
