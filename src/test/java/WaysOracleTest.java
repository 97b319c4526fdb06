import java.util.Random;

/** Promises 17 to 27 on small plays of all sorts, against all rows of holds gone through. */
public final class WaysOracleTest {
    private static final int PLAYS = 1500;

    public static void main(String[] args) {
        Check check = new Check("WaysOracleTest");
        Random random = new Random(20261118);
        for (int i = 0; i < PLAYS; i++) {
            PunchByHeart x = play(random);
            Oracle o = Oracle.of(x);
            ways(check, x, o, i);
            changed(check, x, o, i);
            drawings(check, x, o, random);
            played(check, x, o);
        }
        check.end();
    }

    private static PunchByHeart play(Random random) {
        PunchByHeart x = new PunchByHeart();
        int dolls = 1 + random.nextInt(5);
        int beats = random.nextInt(6);
        int wrongs = random.nextInt(4);
        for (int d = 0; d < dolls; d++) {
            x.doll(random.nextInt(7));
            x.change(d, 1, 1 + random.nextInt(9));
        }
        for (int i = 0; i < 3; i++) {
            x.hooks(random.nextInt(dolls), random.nextInt(dolls));
        }
        for (int tries = 0; tries < 40 && x.count(0) < beats; tries++) {
            int cast = random.nextInt(1 << dolls) & random.nextInt(1 << dolls);
            int speaks = random.nextInt(dolls + 1) - 1;
            int k = x.beat(cast, (cast >> Math.max(0, speaks) & 1) != 0 ? speaks : -1);
            if (wrongs != 0 && x.told(k, 2) == 1) {
                x.cut(k);
            } else if (wrongs == 0 && random.nextInt(5) == 0) {
                x.tell(k, 1, random.nextInt(dolls));
            }
        }
        x.puts(random.nextInt(2), random.nextInt(dolls + 1) - 1);
        x.puts(random.nextInt(2), random.nextInt(dolls + 1) - 1);
        return x;
    }

    private static void ways(Check c, PunchByHeart x, Oracle o, int i) {
        c.is("wrong", x.wrong(), o.wrongs());
        for (int what = 0; what < 2; what++) {
            int[] way = o.way(what);
            c.is(i + " least " + what, x.least(what), way == null ? Check.STATE : o.worth(what));
            for (int k = 0; k < o.beats; k++) {
                int left = way == null ? Check.STATE : way[2 * k];
                int right = way == null ? Check.STATE : way[2 * k + 1];
                c.is(i + " held left " + what, x.held(k, 0, what), left);
                c.is(i + " held right " + what, x.held(k, 1, what), right);
                for (int b = k; b < o.beats; b++) {
                    c.is(i + " part " + what, x.part(k, b, what), o.part(k, b, what));
                }
            }
        }
    }

    private static void changed(Check c, PunchByHeart x, Oracle o, int i) {
        c.is(i + " dear", x.dear(), o.dear());
        int[] rehang = o.rehang();
        c.is(i + " rehang", x.rehang(), rehang[0]);
        c.is(i + " rehung", x.rehung(), rehang[1]);
        for (int d = 0; d < o.dolls; d++) {
            c.is(i + " kindFor " + d, x.kindFor(d), o.kindFor(d));
            c.is(i + " mayor " + d, x.mayor(d), o.mayor(d));
        }
        for (int v = 0; v < 8; v++) {
            c.is(i + " leave " + v, x.leave(v), o.leave(v));
        }
        c.is(i + " leave 99", x.leave(99), o.leave(99));
    }

    private static void drawings(Check c, PunchByHeart x, Oracle o, Random random) {
        int[] drawn = new int[random.nextInt(7)];
        for (int k = 0; k < drawn.length; k++) {
            drawn[k] = random.nextInt(o.dolls + 4) - 2;
        }
        Check.row(x, 2, 16, drawn);
        c.is("fits", x.fits(2), o.fits(drawn));
        for (int k = 0; k < o.beats; k++) {
            c.is("maybe " + k, x.maybe(2, k), o.maybe(drawn, k));
        }
    }

    private static void played(Check c, PunchByHeart x, Oracle o) {
        int[] way = o.way(0);
        if (way == null || o.beats == 0) {
            c.is("plays", x.plays(), Check.STATE);
            return;
        }
        int changes = x.now(0) + o.worth(0);
        int time = x.now(1);
        int left = o.left;
        int right = o.right;
        for (int k = 0; k < o.beats; k++) {
            time += o.cost(left, way[2 * k], 1) + o.cost(right, way[2 * k + 1], 1);
            left = way[2 * k];
            right = way[2 * k + 1];
        }
        c.is("plays", x.plays(), 0);
        c.is("changes", x.now(0), changes);
        c.is("time", x.now(1), time);
        c.is("left", x.hand(0), left);
        c.is("right", x.hand(1), right);
    }
}
