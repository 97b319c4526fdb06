/** Promises 7 to 12: beats, what is told of them, wrong ones, the whistle. */
public final class BeatsTest {
    public static void main(String[] args) {
        Check check = new Check("BeatsTest");
        beats(check);
        told(check);
        tell(check);
        cut(check);
        wrong(check);
        whistle(check);
        check.end();
    }

    private static void beats(Check c) {
        PunchByHeart x = new PunchByHeart();
        c.is("7 cast without dolls", x.beat(1, -1), Check.BEYOND);
        c.is("7 speaker without dolls", x.beat(0, 0), Check.BEYOND);
        c.is("7 empty", x.beat(0, -1), 0);
        x = Check.withDolls(0, 0, 0, 0, 0, 0, 0, 0);
        c.is("7 cast 256", x.beat(256, -1), Check.BEYOND);
        c.is("7 cast -1", x.beat(-1, -1), Check.BEYOND);
        c.is("7 cast lowest", x.beat(Integer.MIN_VALUE, -1), Check.BEYOND);
        c.is("7 speaker 8", x.beat(0, 8), Check.BEYOND);
        c.is("7 speaker -2", x.beat(0, -2), Check.BEYOND);
        for (int k = 0; k < 12; k++) {
            c.is("7 beat " + k, x.beat(255, 7), k);
        }
        c.is("7 full", x.beat(1, 0), Check.FULL);
        c.is("7 beyond ahead of full", x.beat(256, 0), Check.BEYOND);
        c.is("7 count", x.count(0), 12);
    }

    private static void told(Check c) {
        PunchByHeart x = Check.withDolls(Check.PUNCH, Check.PUNCH, 0);
        x.beat(5, 2);
        x.beat(3, -1);
        c.is("8 cast", x.told(0, 0), 5);
        c.is("8 speaks", x.told(0, 1), 2);
        c.is("8 not wrong", x.told(0, 2), 0);
        c.is("8 nobody", x.told(1, 1), -1);
        c.is("8 wrong", x.told(1, 2), 1);
        c.is("8 what 3", x.told(0, 3), Check.BEYOND);
        c.is("8 what -1", x.told(0, -1), Check.BEYOND);
        c.is("8 beat 2", x.told(2, 0), Check.BEYOND);
        c.is("8 beat -1", x.told(-1, 0), Check.BEYOND);
    }

    private static void tell(Check c) {
        PunchByHeart x = Check.withDolls(0, 0);
        x.beat(1, 0);
        c.is("9 cast", x.tell(0, 0, 3), 1);
        c.is("9 cast then", x.told(0, 0), 3);
        c.is("9 speaks", x.tell(0, 1, -1), 0);
        c.is("9 speaks then", x.tell(0, 1, 1), -1);
        c.is("9 cast 4", x.tell(0, 0, 4), Check.BEYOND);
        c.is("9 cast -1", x.tell(0, 0, -1), Check.BEYOND);
        c.is("9 speaks 2", x.tell(0, 1, 2), Check.BEYOND);
        c.is("9 speaks -2", x.tell(0, 1, -2), Check.BEYOND);
        c.is("9 what 2", x.tell(0, 2, 0), Check.BEYOND);
        c.is("9 what -1", x.tell(0, -1, 0), Check.BEYOND);
        c.is("9 beat 1", x.tell(1, 0, 0), Check.BEYOND);
        c.is("9 beat -1", x.tell(-1, 0, 0), Check.BEYOND);
        c.is("9 kept cast", x.told(0, 0), 3);
        c.is("9 kept speaks", x.told(0, 1), 1);
    }

    private static void cut(Check c) {
        PunchByHeart x = Check.withDolls(0, 0);
        x.beat(0, -1);
        x.beat(1, 0);
        x.beat(2, 1);
        x.beat(3, 0);
        c.is("10 beat 4", x.cut(4), Check.BEYOND);
        c.is("10 beat -1", x.cut(-1), Check.BEYOND);
        c.is("10 beat 1", x.cut(1), 3);
        c.is("10 first", x.told(0, 0), 0);
        c.is("10 moved cast", x.told(1, 0), 2);
        c.is("10 moved speaks", x.told(1, 1), 1);
        c.is("10 moved last", x.told(2, 0), 3);
        c.is("10 beat 3 gone", x.told(3, 0), Check.BEYOND);
        c.is("10 last", x.cut(2), 2);
        c.is("10 first", x.cut(0), 1);
        c.is("10 only", x.cut(0), 0);
        c.is("10 none", x.cut(0), Check.BEYOND);
    }

    private static void wrong(Check c) {
        PunchByHeart x = Check.withDolls(Check.PUNCH, Check.JAWED, Check.CROCODILE, Check.GHOST, 0);
        c.is("11 none", x.wrong(), 0);
        x.beat(3, 0);
        x.beat(6, 1);
        x.beat(25, -1);
        x.beat(1, 1);
        x.beat(9, 3);
        x.beat(0, -1);
        x.beat(0, 4);
        x.beat(18, 4);
        c.is("11 set", x.wrong(), 2 + 4 + 8 + 64);
        c.is("11 told", x.told(6, 2), 1);
        x.change(3, 0, Check.PUNCH);
        c.is("11 two that want the right", x.wrong(), 2 + 4 + 8 + 16 + 64);
        x.change(2, 0, Check.DOG);
        c.is("11 a dog wants any", x.wrong(), 4 + 8 + 16 + 64);
    }

    private static void whistle(Check c) {
        PunchByHeart x = Check.withDolls(Check.PUNCH, 0, Check.GHOST, Check.PUNCH, Check.BEADLE);
        c.is("12 none", x.whistle(), 0);
        x.beat(0, -1);
        x.beat(1, 0);
        c.is("12 the first", x.whistle(), 0);
        x.beat(0, -1);
        x.beat(8, 3);
        c.is("12 the same voice", x.whistle(), 0);
        x.beat(0, -1);
        x.beat(2, 1);
        c.is("12 another, behind nobody", x.whistle(), 1);
        x.beat(4, 2);
        x.beat(16, 4);
        c.is("12 own voices", x.whistle(), 1);
        x.beat(4, 0);
        c.is("12 a wrong beat counts", x.whistle(), 2);
        x = Check.withDolls(Check.PUNCH, 0);
        x.beat(1, 0);
        x.beat(2, 1);
        c.is("12 another than the first", x.whistle(), 1);
    }
}
