/** Promises 13 to 16: what the hands hold, whether it suits, what was done. */
public final class HandsTest {
    public static void main(String[] args) {
        Check check = new Check("HandsTest");
        puts(check);
        suits(check);
        now(check);
        check.end();
    }

    private static void puts(Check c) {
        PunchByHeart x = Check.withDolls(0, Check.PUNCH, Check.CROCODILE);
        c.is("13 hand 2", x.puts(2, 0), Check.BEYOND);
        c.is("13 hand -1", x.puts(-1, 0), Check.BEYOND);
        c.is("13 doll 3", x.puts(0, 3), Check.BEYOND);
        c.is("13 doll -2", x.puts(0, -2), Check.BEYOND);
        c.is("13 nothing to nothing", x.puts(0, -1), 0);
        c.is("13 size and hook", x.puts(0, 0), 3);
        c.is("13 the same", x.puts(0, 0), 0);
        c.is("13 the other one holds it", x.puts(1, 0), Check.STATE);
        c.is("13 both nothing", x.puts(1, -1), 0);
        c.is("13 in any hand", x.puts(1, 2), 9 + 2);
        c.is("13 the left one, too", x.puts(0, 2), Check.STATE);
        c.is("13 another one", x.puts(0, 1), 1 + 1);
        c.is("13 to nothing", x.puts(1, -1), 1);
        x.hooks(0, 2);
        c.is("13 by the hook then", x.puts(1, 0), 3 + 2);
        c.is("14 left", x.hand(0), 1);
        c.is("14 right", x.hand(1), 0);
        c.is("14 hand 2", x.hand(2), Check.BEYOND);
        c.is("14 hand -1", x.hand(-1), Check.BEYOND);
        c.is("16 changes", x.now(0), 5);
        c.is("16 time", x.now(1), 3 + 11 + 2 + 1 + 5);
        c.is("13 beyond", x.status(0), 6);
        c.is("13 state", x.status(4), 2);
    }

    private static void suits(Check c) {
        PunchByHeart x = Check.withDolls(Check.PUNCH, Check.JAWED, 0);
        x.beat(0, -1);
        x.beat(1, 0);
        x.beat(2, 1);
        x.beat(3, 0);
        x.beat(4, 0);
        x.beat(7, -1);
        c.is("15 nothing for nobody", x.suits(0), 1);
        c.is("15 nothing for one", x.suits(1), 0);
        x.puts(1, 0);
        c.is("15 one more than the cast", x.suits(0), 1);
        c.is("15 in the right hand", x.suits(1), 1);
        c.is("15 one of two", x.suits(3), 0);
        x.puts(0, 1);
        c.is("15 two", x.suits(3), 1);
        c.is("15 three", x.suits(5), 0);
        x.puts(0, -1);
        x.puts(1, 1);
        x.puts(0, 0);
        c.is("15 the wrong right hand", x.suits(2), 0);
        c.is("15 the wrong left hand", x.suits(1), 0);
        c.is("15 wrong hands of others", x.suits(0), 1);
        x.puts(1, 2);
        c.is("15 a wrong speaker", x.suits(4), 1);
        c.is("15 beat 6", x.suits(6), Check.BEYOND);
        c.is("15 beat -1", x.suits(-1), Check.BEYOND);
    }

    private static void now(Check c) {
        PunchByHeart x = Check.withDolls(0, Check.DOG);
        x.leaves(10);
        x.beat(1, 0);
        x.beat(2, 1);
        c.is("16 lost", x.plays(), 1);
        c.is("16 changes", x.now(0), 2);
        c.is("16 time", x.now(1), 3 + 2);
        c.is("16 played", x.now(2), 2);
        c.is("16 lost", x.now(3), 1);
        c.is("16 leaves", x.now(4), 10);
        c.is("16 what 5", x.now(5), Check.BEYOND);
        c.is("16 what -1", x.now(-1), Check.BEYOND);
    }
}
