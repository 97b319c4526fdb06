import java.util.Arrays;
import java.util.function.ToLongFunction;

/** What the project's tests share: the findings by name, answers that are due, and the tally. */
final class Check {
    static final int BEYOND = -1000001;
    static final int FULL = -1000002;
    static final int KIND = -1000003;
    static final int NONE = -1000004;
    static final int STATE = -1000005;
    static final int MISSING = -1000006;
    static final int SIZE = -1000007;

    static final int DOLL = 0;
    static final int PUNCH = 1;
    static final int GHOST = 2;
    static final int JAWED = 3;
    static final int CROCODILE = 4;
    static final int DOG = 5;
    static final int BEADLE = 6;

    private final String name;
    private int right;
    private int wrong;

    Check(String name) {
        this.name = name;
    }

    void is(String call, long got, long due) {
        if (got == due) {
            right++;
        } else {
            wrong++;
            System.out.println(name + ": " + call + " answered " + got + ", due is " + due);
        }
    }

    void isSo(String what, boolean got) {
        is(what, got ? 1 : 0, 1);
    }

    /** A call is refused: its finding is counted once, and nothing that can be seen changes. */
    void refused(String call, PunchByHeart x, int due, ToLongFunction<PunchByHeart> act) {
        String before = seen(x);
        int[] found = found(x);
        is(call, act.applyAsLong(x), due);
        found[BEYOND - due]++;
        isSo(call + ": its finding is counted once", Arrays.equals(found(x), found));
        isSo(call + ": nothing changes", seen(x).equals(before));
    }

    private static int[] found(PunchByHeart x) {
        int[] found = new int[7];
        for (int which = 0; which < found.length; which++) {
            found[which] = x.status(which);
        }
        return found;
    }

    /** What an object tells of itself by calls that answer no finding. */
    static String seen(PunchByHeart x) {
        StringBuilder told = new StringBuilder();
        for (int what = 0; what < 8; what++) {
            told.append(x.count(what)).append(' ');
        }
        for (int what = 0; what < 5; what++) {
            told.append(x.now(what)).append(' ');
        }
        for (int d = 0; d < x.count(1); d++) {
            for (int what = 0; what < 6; what++) {
                told.append(x.of(d, what)).append(' ');
            }
        }
        for (int k = 0; k < x.count(0); k++) {
            for (int what = 0; what < 3; what++) {
                told.append(x.told(k, what)).append(' ');
            }
        }
        return told.append(x.hand(0)).append(' ').append(x.hand(1)).toString();
    }

    void end() {
        System.out.println(name + ": " + right + " answers as due, " + wrong + " not");
        if (wrong != 0 || right == 0) {
            System.exit(1);
        }
    }

    static PunchByHeart withDolls(int... kinds) {
        PunchByHeart x = new PunchByHeart();
        for (int kind : kinds) {
            x.doll(kind);
        }
        return x;
    }

    /** A text comes onto the tape, byte by byte of its characters. */
    static void feed(PunchByHeart x, String text) {
        for (int i = 0; i < text.length(); i++) {
            x.feed(text.charAt(i), 1);
        }
    }

    static int read(PunchByHeart x, String text) {
        feed(x, text);
        return x.text();
    }

    static void row(PunchByHeart x, int s, int bits, int... numbers) {
        x.sheet(s, bits, numbers.length);
        for (int i = 0; i < numbers.length; i++) {
            x.write(s, i, numbers[i]);
        }
    }
}
