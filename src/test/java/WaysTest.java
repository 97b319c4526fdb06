/** Promises 17 to 25 by hand: the best ways, and what would make them better. */
public final class WaysTest {
    public static void main(String[] args) {
        Check check = new Check("WaysTest");
        least(check);
        held(check);
        part(check);
        dear(check);
        rehang(check);
        kindFor(check);
        mayor(check);
        leave(check);
        nothingChanges(check);
        largest(check);
        check.end();
    }

    private static void least(Check c) {
        PunchByHeart x = new PunchByHeart();
        c.is("17 no beats", x.least(0), 0);
        c.is("17 what 2", x.least(2), Check.BEYOND);
        c.is("17 what -1", x.least(-1), Check.BEYOND);
        x = Check.withDolls(Check.PUNCH, Check.CROCODILE, 0);
        x.beat(1, 0);
        x.beat(3, 1);
        c.is("17 changes", x.least(0), 2);
        c.is("17 time", x.least(1), 1 + 9 + 1);
        x.puts(1, 2);
        c.is("17 changes from the hands", x.least(0), 2);
        x.puts(1, 0);
        c.is("17 one is held", x.least(0), 1);
        c.is("17 its time", x.least(1), 10);
        x.beat(4, 2);
        x.beat(2, 1);
        c.is("17 the crocodile stays", x.least(0), 2);
        c.is("17 time then", x.least(1), 10 + 5);
        x.beat(1, 2);
        c.is("17 doesn't go", x.least(0), Check.STATE);
        c.is("17 beyond ahead of state", x.least(2), Check.BEYOND);
    }

    private static void held(Check c) {
        PunchByHeart x = Check.withDolls(0, 0, 0);
        x.beat(1, 0);
        x.beat(2, 1);
        x.beat(1, 0);
        c.is("18 beat 0 left", x.held(0, 0, 0), -1);
        c.is("18 beat 0 right", x.held(0, 1, 0), 0);
        c.is("18 beat 1 left", x.held(1, 0, 0), 1);
        c.is("18 beat 1 right", x.held(1, 1, 0), 0);
        c.is("18 beat 2 left", x.held(2, 0, 0), 1);
        c.is("18 beat 3", x.held(3, 0, 0), Check.BEYOND);
        c.is("18 beat -1", x.held(-1, 0, 0), Check.BEYOND);
        c.is("18 hand 2", x.held(0, 2, 0), Check.BEYOND);
        c.is("18 hand -1", x.held(0, -1, 0), Check.BEYOND);
        c.is("18 what 2", x.held(0, 0, 2), Check.BEYOND);
        c.is("18 what -1", x.held(0, 0, -1), Check.BEYOND);
        x.puts(0, 2);
        c.is("18 of several the lesser in the left", x.held(0, 0, 0), 0);
        c.is("18 and nothing in the right", x.held(0, 1, 0), -1);
        x.tell(1, 1, 0);
        c.is("18 doesn't go", x.held(0, 0, 0), Check.STATE);
        c.is("18 beyond ahead of state", x.held(3, 0, 0), Check.BEYOND);
        x = Check.withDolls(Check.CROCODILE, Check.PUNCH, 0);
        x.change(0, 1, 9);
        x.beat(1, 0);
        x.beat(4, 2);
        x.beat(1, 0);
        c.is("18 by time the left one is kept", x.held(1, 0, 1), 0);
        c.is("18 by time the right one changes", x.held(1, 1, 1), 2);
    }

    private static void part(Check c) {
        PunchByHeart x = Check.withDolls(0, 0, 0);
        x.beat(3, -1);
        x.beat(4, 1);
        x.beat(6, 2);
        x.beat(1, -1);
        c.is("19 one", x.part(0, 0, 0), 2);
        c.is("19 one of a wrong play", x.part(2, 2, 1), 4 + 5);
        c.is("19 two", x.part(2, 3, 0), 3);
        c.is("19 a wrong one", x.part(0, 1, 0), Check.STATE);
        c.is("19 the wrong one", x.part(1, 1, 0), Check.STATE);
        c.is("19 a above b", x.part(3, 2, 0), Check.BEYOND);
        c.is("19 b 4", x.part(0, 4, 0), Check.BEYOND);
        c.is("19 a -1", x.part(-1, 2, 0), Check.BEYOND);
        c.is("19 what 2", x.part(0, 1, 2), Check.BEYOND);
        c.is("19 what -1", x.part(0, 1, -1), Check.BEYOND);
        x.puts(0, 2);
        c.is("19 from the hands", x.part(2, 2, 0), 1);
        c.is("19 count", x.count(0), 4);
    }

    private static void dear(Check c) {
        PunchByHeart x = Check.withDolls(0, 0, 0, 0, 0);
        c.is("20 none", x.dear(), Check.NONE);
        x.beat(3, -1);
        x.beat(3, -1);
        x.beat(12, -1);
        x.beat(3, -1);
        c.is("20 the third", x.dear(), 2);
        x.cut(2);
        c.is("20 of several the first", x.dear(), 0);
        x.beat(1, 1);
        c.is("20 doesn't go", x.dear(), Check.STATE);
    }

    private static void rehang(Check c) {
        PunchByHeart x = Check.withDolls(0, 0, 0, 0);
        c.is("21 no beats", x.rehang(), 0);
        c.is("22 no beats", x.rehung(), 0);
        x.beat(8, -1);
        c.is("21 to the first hook", x.rehang(), 3);
        c.is("22 then", x.rehung(), 3);
        c.is("21 nothing changed", x.of(3, 5), 3);
        x.beat(4, -1);
        c.is("21 of several the least", x.rehang(), 3);
        c.is("22 of both", x.rehung(), 3 + 5);
        x.hooks(0, 3);
        c.is("21 the second", x.rehang(), 12);
        c.is("22 the second", x.rehung(), 3 + 4);
        x.hooks(1, 2);
        c.is("21 as they are", x.rehang(), 0);
        c.is("22 as they are", x.rehung(), 7);
        PunchByHeart y = Check.withDolls(0, 0, 0, 0, 0, 0, 0, 0);
        y.beat(128 + 2, -1);
        y.beat(1, -1);
        c.is("21 far behind", y.rehang(), 27);
        c.is("22 far behind", y.rehung(), 3 + 4 + 5);
        x.tell(0, 1, 0);
        c.is("21 doesn't go", x.rehang(), Check.STATE);
        c.is("22 doesn't go", x.rehung(), Check.STATE);
    }

    private static void kindFor(Check c) {
        PunchByHeart x = Check.withDolls(Check.PUNCH, Check.PUNCH, Check.JAWED);
        c.is("23 no beats", x.kindFor(1), 0);
        x.beat(3, -1);
        c.is("23 not another punch", x.kindFor(1), 0);
        x.beat(2, -1);
        x.beat(4, -1);
        x.beat(6, -1);
        c.is("23 neither punch nor jawed", x.kindFor(1), 0);
        c.is("23 kept", x.of(1, 0), Check.PUNCH);
        x = Check.withDolls(0, Check.JAWED);
        x.beat(1, -1);
        x.beat(2, -1);
        x.beat(1, -1);
        c.is("23 any will do", x.kindFor(0), 0);
        x.puts(1, 0);
        c.is("23 in the right hand", x.kindFor(0), 0);
        x.puts(1, -1);
        x.puts(0, 0);
        x.puts(1, 1);
        c.is("23 in the left hand", x.kindFor(0), 0);
        c.is("23 the other one", x.kindFor(1), 0);
        c.is("23 doll 2", x.kindFor(2), Check.BEYOND);
        c.is("23 doll -1", x.kindFor(-1), Check.BEYOND);
    }

    private static void mayor(Check c) {
        PunchByHeart x = Check.withDolls(0, Check.PUNCH);
        c.is("24 no beats", x.mayor(0), 1);
        c.is("24 doll 2", x.mayor(2), Check.BEYOND);
        c.is("24 doll -1", x.mayor(-1), Check.BEYOND);
        x.beat(3, 1);
        c.is("24 together", x.mayor(0), Check.NONE);
        c.is("24 itself", Check.withDolls(0).mayor(0), Check.NONE);
        // 3 comes in the place of 1 or of 2; only 2 saves changes, as 3 is there ahead of it.
        x = Check.withDolls(0, 0, 0, 0);
        x.beat(3, 1);
        x.beat(9, 3);
        x.beat(5, 2);
        c.is("24 least", x.mayor(3), 1);
        x.beat(6, -1);
        c.is("24 the first of several", x.mayor(3), 1);
        // In the place of 0 a second jawed doll would be on.
        x = Check.withDolls(0, Check.JAWED, Check.JAWED);
        x.beat(3, 1);
        c.is("24 only as it goes", x.mayor(2), 1);
        // 3 in the place of 2 comes once and stays; in that of 1 it would have to come twice.
        x = Check.withDolls(0, 0, 0, 0);
        x.beat(3, 1);
        x.beat(5, 2);
        x.beat(9, 3);
        c.is("24 that which saves a change", x.mayor(3), 2);
        // Who speaks without being on is wrong: the other one in its place may be on.
        x = Check.withDolls(0, 0, 0);
        x.beat(1, 1);
        c.is("24 mends", x.mayor(0), 1);
        c.is("24 doesn't mend", x.mayor(2), Check.NONE);
        c.is("24 kept", x.told(0, 1), 1);
    }

    private static void leave(Check c) {
        PunchByHeart x = Check.withDolls(0, 0, 0, 0, Check.PUNCH, Check.PUNCH);
        c.is("25 no beats", x.leave(0), 0);
        c.is("25 v -1", x.leave(-1), Check.BEYOND);
        c.is("25 v 100", x.leave(100), Check.BEYOND);
        x.beat(0, -1);
        x.beat(3, -1);
        x.beat(12, -1);
        x.beat(3, -1);
        x.beat(48, -1);
        c.is("25 only the wrong one", x.leave(99), 1);
        c.is("25 six", x.leave(6), 1);
        c.is("25 five", x.leave(5), 2);
        c.is("25 two", x.leave(2), 2);
        c.is("25 one", x.leave(1), 4);
        c.is("25 nothing", x.leave(0), 4);
        c.is("25 kept", x.count(0), 5);
    }

    private static void nothingChanges(Check c) {
        PunchByHeart x = Check.withDolls(0, Check.PUNCH, Check.DOG);
        x.beat(3, 0);
        x.beat(4, 2);
        x.least(1);
        x.held(1, 0, 0);
        x.part(1, 1, 0);
        x.dear();
        x.rehang();
        x.kindFor(1);
        x.mayor(2);
        x.leave(0);
        c.is("17 no changes", x.now(0), 0);
        c.is("17 hands", x.hand(0) + x.hand(1), -2);
        c.is("17 beats", x.told(0, 0) + x.told(1, 0), 7);
        c.is("17 hooks", x.of(1, 5), 1);
        c.is("17 z", x.count(6), 1);
    }

    private static void largest(Check c) {
        PunchByHeart x = Check.withDolls(4, 0, 4, 0, 4, 0, 4, 0);
        for (int d = 0; d < 8; d++) {
            x.change(d, 1, 9);
        }
        for (int k = 0; k < 12; k++) {
            x.beat(k % 2 == 0 ? 3 : 12, -1);
        }
        c.is("17 twelve beats", x.least(0), 24);
        c.is("17 their time", x.least(1), 6 * (21 + 10 + 23 + 12));
        c.is("22 rehung", x.rehung(), x.least(1));
        c.is("25 one within", x.leave(20), 1);
        c.is("25 two within", x.leave(19), 2);
        c.is("25 all of one sort", x.leave(2), 6);
    }
}
