import java.util.Random;

/** Random runs of calls on ShutterTown and on PlainTown: all answers are alike, and none throws. */
public final class ModelTest {
    private static final int RUNS = 400;
    private static final int CALLS = 400;
    private static final int[] STRANGE = {Integer.MIN_VALUE, Integer.MAX_VALUE, -9, -1, 4, 5, 6, 7, 9, 10, 11, 31, 63, 64, 256};

    private final Random random;
    private ShutterTown town;
    private PlainTown plain;
    private String log = "";
    private int actsToCome = 0;

    private ModelTest(long start) {
        random = new Random(start);
    }

    public static void main(String[] args) {
        int runs = args.length > 0 ? Integer.parseInt(args[0]) : RUNS;
        for (int run = 0; run < runs; run++) {
            ModelTest test = new ModelTest(run);
            if (!test.play()) {
                break;
            }
        }
        Check.end("ModelTest");
    }

    private boolean play() {
        town = new ShutterTown();
        plain = new PlainTown();
        int calls = 0;
        while (calls < CALLS) {
            int kind = random.nextInt(60);
            boolean same;
            if (kind == 0 || calls == 0) {
                String text = aText();
                same = writeText(text) && same("town", town.town(), plain.town());
                calls += text.length() + 2;
            } else {
                same = call(aCall());
                calls++;
            }
            if (!same) {
                System.out.println("behind: " + log);
                return false;
            }
        }
        return true;
    }

    /** At times many ACTS come one behind the other, so that THE ROW runs over, and many are undone. */
    private int aCall() {
        if (random.nextInt(40) == 0) {
            actsToCome = 30;
        }
        if (actsToCome <= 0) {
            return random.nextInt(28);
        }
        actsToCome--;
        return actsToCome < 10 ? 9 : 5 + random.nextInt(4);
    }

    private boolean same(String call, long got, long want) {
        log = log + " " + call + "=" + got;
        Check.due(call, got, want);
        return got == want;
    }

    private boolean writeText(String text) {
        boolean same = same("wipe()", town.wipe(), plain.wipe());
        for (int at = 0; at < text.length() && same; at++) {
            same = same("write(" + text.charAt(at) + ")", town.write(text.charAt(at)), plain.write(text.charAt(at)));
            if (random.nextInt(10) == 0 && same) {
                same = same("fault()", town.fault(), plain.fault());
            }
        }
        return same && same("fault()", town.fault(), plain.fault());
    }

    /** A TOWN, mostly; at times with a letter that is another one, or none. */
    private String aText() {
        StringBuilder text = new StringBuilder("S");
        for (int state = 0; state < 4; state++) {
            text.append(random.nextInt(4));
        }
        text.append(1 + random.nextInt(random.nextBoolean() ? 2 : 9));
        int windows = random.nextInt(3) == 0 ? random.nextInt(7) : 6;
        int places = 2 + random.nextInt(9);
        int floors = 1 + random.nextInt(4);
        String taken = "";
        for (int window = 0; window < windows; window++) {
            String spot = random.nextInt(Math.max(3, Math.min(10, places))) + "" + random.nextInt(2);
            if (taken.contains(" " + spot) && random.nextInt(40) != 0) {
                window--;
                continue;
            }
            taken = taken + " " + spot;
            int kind = random.nextInt(6);
            text.append('W').append(spot).append(random.nextInt(floors)).append(random.nextInt(4)).append(kind < 4 ? kind : kind - 4);
        }
        if (random.nextInt(4) == 0) {
            int at = random.nextInt(text.length());
            text.setCharAt(at, "SW0123456789:/".charAt(random.nextInt(14)));
        }
        if (random.nextInt(6) == 0) {
            text.setLength(random.nextInt(text.length() + 1));
        }
        if (random.nextInt(10) == 0) {
            text.append("W01230");
        }
        return text.toString();
    }

    private int number(int most) {
        return random.nextInt(12) == 0 ? STRANGE[random.nextInt(STRANGE.length)] : random.nextInt(most + 1);
    }

    private int aWindow() {
        int windows = plain.count(1);
        return random.nextInt(12) == 0 || windows == 0 ? number(7) : random.nextInt(windows);
    }

    private long aRow(int n) {
        if (random.nextInt(20) == 0) {
            return random.nextLong();
        }
        long row = 0;
        for (int at = 0; at < Math.min(n, 6); at++) {
            int thing = random.nextInt(3) == 0 ? 90 + random.nextInt(2) : 10 * random.nextInt(6) + random.nextInt(4);
            row = 100 * row + (random.nextInt(20) == 0 ? random.nextInt(100) : thing);
        }
        return row;
    }

    private boolean call(int which) {
        int one = aWindow();
        int other = aWindow();
        boolean flag = random.nextBoolean();
        if (which < 10) {
            return act(which, one, other);
        }
        if (which < 15) {
            return way(which, one, other, flag);
        }
        return which < 20 ? code(which, one, flag) : rest(which, one, other, flag);
    }

    private boolean act(int which, int one, int other) {
        int number = number(7);
        int state = number(3);
        switch (which) {
            case 0:
                return same("write(" + number + ")", town.write(number), plain.write(number));
            case 1:
            case 2:
            case 3:
                return same("fault()", town.fault(), plain.fault());
            case 4:
                return same("window(" + one + "," + number + ")", town.window(one, number), plain.window(one, number));
            case 5:
                return same("move(" + one + "," + state + ")", town.move(one, state), plain.move(one, state));
            case 6:
                return same("wind()", town.wind(), plain.wind());
            case 7:
                return same("pass(" + one + "," + other + ")", town.pass(one, other), plain.pass(one, other));
            case 8:
                return same("hour()", town.hour(), plain.hour());
            default:
                return same("undo()", town.undo(), plain.undo());
        }
    }

    private boolean way(int which, int one, int other, boolean flag) {
        int number = number(9);
        int set = random.nextInt(12) == 0 ? number(99) : random.nextInt(1 << plain.count(1));
        int n = random.nextInt(15) == 0 ? number(6) : 1 + random.nextInt(5);
        long row = aRow(n);
        switch (which) {
            case 10:
                return same("soonest(" + one + "," + other + "," + flag + ")", town.soonest(one, other, flag), plain.soonest(one, other, flag));
            case 11:
                return same("knows(" + one + "," + number + ")", town.knows(one, number), plain.knows(one, number));
            case 12:
                return same("toTell(" + set + ")", town.toTell(set), plain.toTell(set));
            case 13:
                return same("cut(" + one + "," + other + ")", town.cut(one, other), plain.cut(one, other));
            default:
                return same("judge(" + n + "," + row + ")", town.judge(n, row), plain.judge(n, row));
        }
    }

    private boolean code(int which, int one, boolean flag) {
        int s = number(3);
        int w = number(3);
        switch (which) {
            case 15:
                return same("follow(" + s + "," + w + "," + flag + ")", town.follow(s, w, flag), plain.follow(s, w, flag));
            case 16:
                return random.nextInt(3) != 0 || same("unfollow()", town.unfollow(), plain.unfollow());
            case 17:
                return same("codes(" + flag + ")", town.codes(flag), plain.codes(flag));
            case 18:
                return same("look()", town.look(), plain.look());
            default:
                return same("will(" + one + "," + s + "," + w + ")", town.will(one, s, w), plain.will(one, s, w));
        }
    }

    private boolean rest(int which, int one, int other, boolean flag) {
        int bit = number(1);
        int word = number(3);
        int x = number(10);
        int m = number(30);
        int what = number(8);
        long seed = random.nextInt(4) == 0 ? random.nextLong() : random.nextInt(9) - 4;
        switch (which) {
            case 20:
                return same("cross(" + one + "," + other + ")", town.cross(one, other), plain.cross(one, other));
            case 21:
                return same("rests(" + bit + ")", town.rests(bit), plain.rests(bit));
            case 22:
                return same("slams(" + one + "," + word + "," + x + "," + flag + ")", town.slams(one, word, x, flag), plain.slams(one, word, x, flag));
            case 23:
                return same("seed(" + seed + ")", town.seed(seed), plain.seed(seed));
            case 24:
                return same("afternoons(" + m + ")", town.afternoons(m), plain.afternoons(m));
            case 25:
                return same("keep(" + bit + ")", town.keep(bit), plain.keep(bit));
            case 26:
                return same("again(" + bit + ")", town.again(bit), plain.again(bit));
            default:
                return same("count(" + what + ")", town.count(what), plain.count(what));
        }
    }
}
