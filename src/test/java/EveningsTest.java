/** Promises 28 to 32: dogs, the odds that they stay, evenings, draws. */
public final class EveningsTest {
    public static void main(String[] args) {
        Check check = new Check("EveningsTest");
        dogs(check);
        stays(check);
        plays(check);
        draws(check);
        ahead(check);
        seed(check);
        check.end();
    }

    private static void dogs(Check c) {
        PunchByHeart x = Check.withDolls(0, Check.DOG, Check.DOG, Check.BEADLE);
        c.is("28 no beats", x.dogs(), 0);
        x.beat(3, -1);
        x.beat(1, 1);
        x.beat(6, -1);
        x.beat(15, -1);
        x.beat(9, -1);
        c.is("28 set", x.dogs(), 1 + 4 + 8);
        x.change(3, 0, Check.DOG);
        c.is("28 then", x.dogs(), 1 + 4 + 8 + 16);
    }

    private static void stays(Check c) {
        PunchByHeart x = Check.withDolls(Check.DOG, Check.DOG, 0);
        c.is("29 what 2", x.stays(2), Check.BEYOND);
        c.is("29 what -1", x.stays(-1), Check.BEYOND);
        x.leaves(10);
        odds(c, x, 1, 1);
        x.beat(7, -1);
        x.beat(1, -1);
        x.beat(4, -1);
        odds(c, x, 0, 1);
        x.leaves(0);
        odds(c, x, 1, 1);
        x.leaves(3);
        odds(c, x, 343, 1000);
        x.leaves(4);
        odds(c, x, 27, 125);
        x.leaves(5);
        odds(c, x, 1, 8);
        x.leaves(2);
        odds(c, x, 64, 125);
        x.leaves(9);
        odds(c, x, 1, 1000);
        for (int k = 0; k < 6; k++) {
            x.beat(3, -1);
        }
        odds(c, x, 1, 1000000000000000L);
        x.beat(1, -1);
        c.is("29 too much above", x.stays(0), Check.SIZE);
        c.is("29 too much below", x.stays(1), Check.SIZE);
        c.is("29 beyond ahead of size", x.stays(2), Check.BEYOND);
        x.leaves(10);
        odds(c, x, 0, 1);
        x.leaves(5);
        odds(c, x, 1, 65536);
    }

    private static void odds(Check c, PunchByHeart x, long above, long below) {
        c.is("29 above, leaves " + x.now(4), x.stays(0), above);
        c.is("29 below, leaves " + x.now(4), x.stays(1), below);
    }

    private static void plays(Check c) {
        PunchByHeart x = Check.withDolls(0, Check.JAWED, Check.PUNCH);
        c.is("30 no beats", x.plays(), Check.STATE);
        x.beat(1, 0);
        x.beat(6, 2);
        c.is("30 nothing lost", x.plays(), 0);
        c.is("30 left", x.hand(0), 1);
        c.is("30 right", x.hand(1), 2);
        c.is("30 changes", x.now(0), 3);
        c.is("30 time", x.now(1), 3 + 7 + 3);
        c.is("30 played", x.now(2), 2);
        c.is("30 z as it was", x.count(6), 1);
        c.is("30 again", x.plays(), 0);
        c.is("30 changes then", x.now(0), 5);
        c.is("30 played then", x.count(3), 4);
        x.tell(0, 1, 1);
        c.is("30 doesn't go", x.plays(), Check.STATE);
        c.is("30 changes nothing", x.now(2), 4);
    }

    private static void draws(Check c) {
        for (int leaves = 0; leaves <= 10; leaves++) {
            PunchByHeart x = Check.withDolls(Check.DOG, Check.DOG, 0);
            x.beat(1, -1);
            x.beat(3, -1);
            x.beat(4, -1);
            x.beat(6, -1);
            x.leaves(leaves);
            for (int seed = -3; seed < 30; seed++) {
                int z = seed * 123456789;
                x.seed(z);
                int before = x.now(3);
                int[] due = evening(z, leaves, new int[] {1, 2, 0, 1});
                c.is("30 lost", x.plays(), due[0]);
                c.is("30 z", x.count(6), due[1]);
                c.is("30 lost together", x.now(3), before + due[0]);
            }
        }
    }

    /** What is lost in an evening with so many dogs in each beat, and z then. */
    private static int[] evening(int z, int leaves, int[] dogs) {
        int lost = 0;
        for (int many : dogs) {
            int gone = 0;
            for (int i = 0; i < many; i++) {
                z = z * 1103515245 + 12345;
                gone += (z >>> 8) % 10 < leaves ? 1 : 0;
            }
            lost += gone > 0 ? 1 : 0;
        }
        return new int[] {lost, z};
    }

    private static void ahead(Check c) {
        PunchByHeart x = Check.withDolls(Check.DOG, Check.DOG, 0);
        c.is("31 no beats", x.ahead(0), Check.STATE);
        c.is("31 beyond ahead of state", x.ahead(21), Check.BEYOND);
        x.beat(3, -1);
        x.beat(4, -1);
        x.beat(5, -1);
        x.leaves(3);
        x.seed(77);
        c.is("31 n -1", x.ahead(-1), Check.BEYOND);
        c.is("31 n 0", x.ahead(0), 0);
        int twenty = x.ahead(20);
        int five = x.ahead(5);
        c.is("31 z as it was", x.count(6), 77);
        c.is("31 hands", x.hand(0) + x.hand(1), -2);
        c.is("31 played", x.now(2), 0);
        int sum = 0;
        for (int i = 1; i <= 20; i++) {
            sum += x.plays();
            if (i == 5) {
                c.is("31 five", five, sum);
            }
        }
        c.is("31 twenty", twenty, sum);
        c.is("31 some are lost", sum > 0 && sum < 40 ? 1 : 0, 1);
        x.tell(0, 1, 2);
        c.is("31 doesn't go", x.ahead(1), Check.STATE);
    }

    private static void seed(Check c) {
        PunchByHeart x = new PunchByHeart();
        c.is("32 at first", x.seed(-1000001), 1);
        c.is("46 z", x.count(6), -1000001);
        c.is("32 any", x.seed(Integer.MIN_VALUE), -1000001);
        c.is("32 lowest", x.seed(0), Integer.MIN_VALUE);
        c.is("32 no finding", x.status(-1), 0);
    }
}
