import java.util.Random;

/**
 * Calls with any arguments in any order: none throws, each finding is counted as such, and what
 * answers a finding changes nothing else.
 */
public final class FindingsTest {
    private static final int RUNS = 4000;
    /** Each is followed by a look at the tally, the last one also stands between two looks at all. */
    private static final int CALLS = 150;
    private static final int[] ODD = {
        Integer.MIN_VALUE, Integer.MAX_VALUE, -1000001, -1000, -2, -1, 999, 256, 41, 40, 13, 32,
    };

    public static void main(String[] args) {
        Check check = new Check("FindingsTest");
        Random random = new Random(7);
        for (int run = 0; run < RUNS; run++) {
            PunchByHeart x = new PunchByHeart();
            int odd = 2 + random.nextInt(20);
            int found = 0;
            for (int i = 1; i < CALLS; i++) {
                found += once(check, x, random, odd, found) ? 1 : 0;
            }
            String before = Check.seen(x);
            if (once(check, x, random, odd, found)) {
                check.isSo("47 a finding changes nothing", Check.seen(x).equals(before));
            }
        }
        check.end();
    }

    /** Whether a call, any one, answered a finding; as many were found before. */
    private static boolean once(Check c, PunchByHeart x, Random random, int odd, int before) {
        int which = random.nextInt(46);
        int[] v = new int[5];
        for (int i = 0; i < 5; i++) {
            boolean isOdd = random.nextInt(odd) == 0;
            v[i] = isOdd ? ODD[random.nextInt(ODD.length)] : usual(random);
        }
        long answer = call(x, which, v);
        boolean isFinding = answer <= Check.BEYOND && answer >= Check.SIZE
                && which != 35 && !(which == 44 && v[0] == 6);
        c.is("47 call " + which, x.status(-1), before + (isFinding ? 1 : 0));
        return isFinding;
    }

    private static int usual(Random random) {
        int wide = random.nextInt(10);
        return wide == 0 ? random.nextInt(256) : wide < 4 ? random.nextInt(12) : random.nextInt(3);
    }

    private static long call(PunchByHeart x, int which, int[] v) {
        switch (which) {
            case 0: return x.doll(v[0]);
            case 1: return x.of(v[0], v[1]);
            case 2: return x.change(v[0], v[1], v[2]);
            case 3: return x.hooks(v[0], v[1]);
            case 4: return x.leaves(v[0]);
            case 5: return x.beat(v[0], v[1]);
            case 6: return x.told(v[0], v[1]);
            case 7: return x.tell(v[0], v[1], v[2]);
            case 8: return v[1] > 0 ? x.wrong() : x.cut(v[0]);
            case 9: return x.wrong();
            case 10: return x.whistle();
            case 11: return x.puts(v[0], v[1] - 1);
            case 12: return x.hand(v[0]);
            case 13: return x.suits(v[0]);
            case 14: return x.now(v[0]);
            case 15: return x.least(v[0]);
            case 16: return x.held(v[0], v[1], v[2]);
            case 17: return x.part(v[0], v[1], v[2]);
            case 18: return x.dear();
            case 19: return x.rehang();
            case 20: return x.rehung();
            default: return more(x, which, v);
        }
    }

    private static long more(PunchByHeart x, int which, int[] v) {
        switch (which) {
            case 21: return x.kindFor(v[0]);
            case 22: return x.mayor(v[0]);
            case 23: return x.leave(v[0]);
            case 24: return x.fits(v[0]);
            case 25: return x.maybe(v[0], v[1]);
            case 26: return x.dogs();
            case 27: return x.stays(v[0]);
            case 28: return x.plays();
            case 29: return x.ahead(v[0]);
            case 30: return x.sheet(v[0], 8 * v[1], v[2]);
            case 31: return x.write(v[0], v[1], v[2]);
            case 32: return x.copy(v[0], v[1], v[2], v[3], v[4]);
            case 33: return x.load(v[0]);
            case 34: return x.judge(v[0]);
            case 35: return x.seed(v[0]);
            case 36: return x.feed(v[0], v[1]);
            case 37: return x.wipe();
            case 38: return x.text();
            case 39: return x.hold(v[0], v[1]);
            case 40: return x.as(v[0], v[1]);
            case 41: return x.image();
            case 42: return v[0] == 1 ? x.undo() : x.dogs();
            case 43: return v[0] == 1 ? x.tear() : x.dogs();
            case 44: return x.count(v[0]);
            default: return x.status(v[0]);
        }
    }
}
