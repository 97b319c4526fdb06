/** What the project's tests share: the findings by name, answers that are due, and the tally. */
final class Check {
    static final int BEYOND = -1000001;
    static final int FULL = -1000002;
    static final int KIND = -1000003;
    static final int NONE = -1000004;
    static final int STATE = -1000005;
    static final int MISSING = -1000006;
    static final int SIZE = -1000007;

    static final int DOLL = 0;
    static final int PUNCH = 1;
    static final int GHOST = 2;
    static final int JAWED = 3;
    static final int CROCODILE = 4;
    static final int DOG = 5;
    static final int BEADLE = 6;

    private final String name;
    private int right;
    private int wrong;

    Check(String name) {
        this.name = name;
    }

    void is(String call, long got, long due) {
        if (got == due) {
            right++;
        } else {
            wrong++;
            System.out.println(name + ": " + call + " answered " + got + ", due is " + due);
        }
    }

    void end() {
        System.out.println(name + ": " + right + " answers as due, " + wrong + " not");
        if (wrong != 0 || right == 0) {
            System.exit(1);
        }
    }

    static PunchByHeart withDolls(int... kinds) {
        PunchByHeart x = new PunchByHeart();
        for (int kind : kinds) {
            x.doll(kind);
        }
        return x;
    }

    /** A text comes onto the tape, byte by byte of its characters. */
    static void feed(PunchByHeart x, String text) {
        for (int i = 0; i < text.length(); i++) {
            x.feed(text.charAt(i), 1);
        }
    }

    static int read(PunchByHeart x, String text) {
        feed(x, text);
        return x.text();
    }

    static void row(PunchByHeart x, int s, int bits, int... numbers) {
        x.sheet(s, bits, numbers.length);
        for (int i = 0; i < numbers.length; i++) {
            x.write(s, i, numbers[i]);
        }
    }
}
