/** Promises 1 to 6: a new object, dolls, what they are, hooks, leaves. */
public final class DollsTest {
    private static final int[] WANTS = {0, 2, 0, 1, 1, 0, 0};
    private static final int[] VOICES = {0, 1, 0, 0, 0, 0, 0};
    private static final int[][] ON = {
        {1, 2, 3, 4, 5, 6, 7, 8, 9},
        {1, 1, 1, 1, 1, 1, 1, 1, 1},
        {3, 3, 3, 3, 3, 3, 3, 3, 3},
        {2, 4, 6, 8, 10, 12, 14, 16, 18},
        {5, 7, 9, 11, 13, 15, 17, 19, 21},
        {1, 1, 1, 2, 2, 3, 3, 4, 4},
        {6, 6, 6, 6, 6, 6, 6, 6, 6},
    };

    public static void main(String[] args) {
        Check check = new Check("DollsTest");
        newObject(check);
        dolls(check);
        kinds(check);
        changes(check);
        hooks(check);
        leaves(check);
        check.end();
    }

    private static void newObject(Check c) {
        PunchByHeart x = new PunchByHeart();
        for (int what = 0; what <= 7; what++) {
            c.is("1 count " + what, x.count(what), what == 6 ? 1 : 0);
        }
        for (int what = 0; what <= 4; what++) {
            c.is("1 now " + what, x.now(what), 0);
        }
        c.is("1 hand left", x.hand(0), -1);
        c.is("1 hand right", x.hand(1), -1);
        c.is("1 status", x.status(-1), 0);
        c.is("1 tear", x.tear(), 0);
        c.is("1 wipe", x.wipe(), 0);
        for (int s = 0; s < 4; s++) {
            c.is("1 sheet " + s, x.load(s), Check.MISSING);
        }
        for (int spot = 0; spot < 10; spot++) {
            c.is("1 spot " + spot, x.as(spot, 0), Check.MISSING);
        }
        c.is("1 status then", x.status(5), 14);
        c.is("1 seed", x.seed(1), 1);
    }

    private static void dolls(Check c) {
        PunchByHeart x = new PunchByHeart();
        c.is("2 kind -1", x.doll(-1), Check.BEYOND);
        c.is("2 kind 7", x.doll(7), Check.BEYOND);
        c.is("2 kind lowest", x.doll(Integer.MIN_VALUE), Check.BEYOND);
        for (int i = 0; i < 8; i++) {
            c.is("2 doll " + i, x.doll(i % 7), i);
            c.is("2 kind of " + i, x.of(i, 0), i % 7);
            c.is("2 size of " + i, x.of(i, 1), 3);
            c.is("2 hook of " + i, x.of(i, 5), i);
        }
        c.is("2 full", x.doll(0), Check.FULL);
        c.is("2 beyond ahead of full", x.doll(7), Check.BEYOND);
        c.is("2 count", x.count(1), 8);
        c.is("2 sizes", x.count(4), 24);
        x = Check.withDolls(0, 0);
        x.hooks(0, 1);
        x.doll(0);
        c.is("2 on the last hook", x.of(2, 5), 2);
    }

    private static void kinds(Check c) {
        PunchByHeart x = Check.withDolls(0, 1, 2, 3, 4, 5, 6);
        for (int kind = 0; kind < 7; kind++) {
            c.is("3 wants " + kind, x.of(kind, 2), WANTS[kind]);
            c.is("3 voice " + kind, x.of(kind, 4), VOICES[kind]);
            for (int size = 1; size <= 9; size++) {
                x.change(kind, 1, size);
                c.is("3 on " + kind + " " + size, x.of(kind, 3), ON[kind][size - 1]);
            }
        }
        c.is("3 no such doll", x.of(7, 0), Check.BEYOND);
        c.is("3 doll -1", x.of(-1, 0), Check.BEYOND);
        c.is("3 what 6", x.of(0, 6), Check.BEYOND);
        c.is("3 what -1", x.of(0, -1), Check.BEYOND);
        c.is("3 counted", x.status(0), 4);
    }

    private static void changes(Check c) {
        PunchByHeart x = Check.withDolls(Check.PUNCH);
        c.is("4 kind", x.change(0, 0, 6), 1);
        c.is("4 kind then", x.of(0, 0), 6);
        c.is("4 size", x.change(0, 1, 9), 3);
        c.is("4 size then", x.change(0, 1, 1), 9);
        c.is("4 kind 7", x.change(0, 0, 7), Check.BEYOND);
        c.is("4 kind -1", x.change(0, 0, -1), Check.BEYOND);
        c.is("4 kind 0", x.change(0, 0, 0), 6);
        c.is("4 size 0", x.change(0, 1, 0), Check.BEYOND);
        c.is("4 size 10", x.change(0, 1, 10), Check.BEYOND);
        c.is("4 what 2", x.change(0, 2, 1), Check.BEYOND);
        c.is("4 what -1", x.change(0, -1, 1), Check.BEYOND);
        c.is("4 doll 1", x.change(1, 0, 1), Check.BEYOND);
        c.is("4 doll -1", x.change(-1, 0, 1), Check.BEYOND);
        c.is("4 kept kind", x.of(0, 0), 0);
        c.is("4 kept size", x.of(0, 1), 1);
    }

    private static void hooks(Check c) {
        PunchByHeart x = Check.withDolls(0, 0, 0);
        c.is("5 hooks 0 2", x.hooks(0, 2), 2);
        c.is("5 hook of 2", x.of(2, 5), 0);
        c.is("5 hooks 1 0", x.hooks(1, 0), 2);
        c.is("5 hook of 0", x.of(0, 5), 1);
        c.is("5 the same", x.hooks(1, 1), Check.BEYOND);
        c.is("5 none", x.hooks(1, 3), Check.BEYOND);
        c.is("5 -1", x.hooks(-1, 1), Check.BEYOND);
        c.is("5 kept", x.of(1, 5), 2);
    }

    private static void leaves(Check c) {
        PunchByHeart x = new PunchByHeart();
        c.is("6 to 10", x.leaves(10), 0);
        c.is("6 to 0", x.leaves(0), 10);
        c.is("6 to 4", x.leaves(4), 0);
        c.is("6 -1", x.leaves(-1), Check.BEYOND);
        c.is("6 11", x.leaves(11), Check.BEYOND);
        c.is("6 now", x.now(4), 4);
    }
}
