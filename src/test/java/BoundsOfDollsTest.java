/** Each boundary that promises 1 to 16 name, on an object of its own. */
public final class BoundsOfDollsTest {
    private static final int LOWEST = Integer.MIN_VALUE;
    private static final int HIGHEST = Integer.MAX_VALUE;

    private final Check c = new Check("BoundsOfDollsTest");

    public static void main(String[] args) {
        BoundsOfDollsTest test = new BoundsOfDollsTest();
        test.promise1New();
        test.promise2Doll();
        test.promise3Of();
        test.promise3On();
        test.promise4Change();
        test.promise5Hooks();
        test.promise6Leaves();
        test.promise7Beat();
        test.promise8Told();
        test.promise8Wrong();
        test.promise9Tell();
        test.promise10Cut();
        test.promise11Wrong();
        test.promise12Whistle();
        test.promise13Puts();
        test.promise14Hand();
        test.promise15Suits();
        test.promise16Now();
        test.c.end();
    }

    private static PunchByHeart eight() {
        return Check.withDolls(0, 1, 2, 3, 4, 5, 6, 0);
    }

    private static PunchByHeart twelve() {
        PunchByHeart x = Check.withDolls(0, 0);
        for (int k = 0; k < 12; k++) {
            x.beat(k % 4, -1);
        }
        return x;
    }

    private void promise1New() {
        c.is("1 no dolls", new PunchByHeart().count(1), 0);
        c.refused("1 no doll", new PunchByHeart(), Check.BEYOND, x -> x.of(0, 0));
        c.is("1 no beats", new PunchByHeart().count(0), 0);
        c.refused("1 no beat", new PunchByHeart(), Check.BEYOND, x -> x.told(0, 0));
        c.is("1 the tape is empty", new PunchByHeart().count(5), 0);
        c.is("1 it is wiped of nothing", new PunchByHeart().wipe(), 0);
        c.refused("1 no image is kept", new PunchByHeart(), Check.NONE, x -> x.undo());
        c.is("1 none to tear", new PunchByHeart().tear(), 0);
        c.is("1 leaves 0 at first", new PunchByHeart().leaves(5), 0);
        c.is("1 z 1 at first", new PunchByHeart().seed(5), 1);
        c.is("1 the left hand holds nothing at first", new PunchByHeart().hand(0), -1);
        c.is("1 the right hand holds nothing at first", new PunchByHeart().hand(1), -1);
        c.is("1 size 3 at first", Check.withDolls(0).of(0, 1), 3);
        for (int i = 0; i < 10; i++) {
            int spot = i;
            c.refused("1 spot " + i, new PunchByHeart(), Check.MISSING, x -> x.as(spot, 0));
        }
        for (int i = 0; i < 4; i++) {
            int sheet = i;
            c.refused("1 sheet " + i, new PunchByHeart(), Check.MISSING, x -> x.fits(sheet));
        }
    }

    private void promise2Doll() {
        c.refused("2 kind -1", new PunchByHeart(), Check.BEYOND, x -> x.doll(-1));
        c.refused("2 kind 7", new PunchByHeart(), Check.BEYOND, x -> x.doll(7));
        c.refused("2 kind lowest", new PunchByHeart(), Check.BEYOND, x -> x.doll(LOWEST));
        c.refused("2 kind highest", new PunchByHeart(), Check.BEYOND, x -> x.doll(HIGHEST));
        c.is("2 kind 0", new PunchByHeart().doll(0), 0);
        c.is("2 kind 6", new PunchByHeart().doll(6), 0);
        c.is("2 the 8th", Check.withDolls(0, 1, 2, 3, 4, 5, 6).doll(0), 7);
        c.refused("2 a 9th: full", eight(), Check.FULL, x -> x.doll(0));
        c.refused("2 beyond is asked ahead of full", eight(), Check.BEYOND, x -> x.doll(7));
        PunchByHeart x = Check.withDolls(0, 0);
        x.hooks(0, 1);
        c.is("2 on the last hook, also if hooks were changed", x.of(x.doll(0), 5), 2);
    }

    private void promise3Of() {
        c.refused("3 doll -1", eight(), Check.BEYOND, x -> x.of(-1, 0));
        c.refused("3 doll 8", eight(), Check.BEYOND, x -> x.of(8, 0));
        c.refused("3 doll 1 of one", Check.withDolls(0), Check.BEYOND, x -> x.of(1, 0));
        c.refused("3 doll highest", eight(), Check.BEYOND, x -> x.of(HIGHEST, 0));
        c.refused("3 what -1", eight(), Check.BEYOND, x -> x.of(0, -1));
        c.refused("3 what 6", eight(), Check.BEYOND, x -> x.of(0, 6));
        c.is("3 what 0", eight().of(6, 0), 6);
        c.is("3 what 5", eight().of(7, 5), 7);
    }

    private void promise3On() {
        int[] half = {1, 1, 1, 2, 2, 3, 3, 4, 4};
        for (int size = 1; size <= 9; size++) {
            PunchByHeart x = eight();
            for (int d = 0; d < 8; d++) {
                x.change(d, 1, size);
            }
            c.is("3 on: a doll, its size " + size, x.of(0, 3), size);
            c.is("3 on: punch, of any size " + size, x.of(1, 3), 1);
            c.is("3 on: a ghost, of any size " + size, x.of(2, 3), 3);
            c.is("3 on: jawed, twice the size " + size, x.of(3, 3), 2 * size);
            c.is("3 on: a crocodile, and 3 " + size, x.of(4, 3), 2 * size + 3);
            c.is("3 on: a dog, half, cut, 1 at least " + size, x.of(5, 3), half[size - 1]);
            c.is("3 on: a beadle, twice a ghost " + size, x.of(6, 3), 6);
        }
        int[] wants = {0, 2, 0, 1, 1, 0, 0};
        int[] voices = {0, 1, 0, 0, 0, 0, 0};
        for (int kind = 0; kind < 7; kind++) {
            c.is("3 wants of kind " + kind, eight().of(kind, 2), wants[kind]);
            c.is("3 voice of kind " + kind, eight().of(kind, 4), voices[kind]);
        }
    }

    private void promise4Change() {
        c.refused("4 doll -1", eight(), Check.BEYOND, x -> x.change(-1, 1, 1));
        c.refused("4 doll 8", eight(), Check.BEYOND, x -> x.change(8, 1, 1));
        c.refused("4 what -1", eight(), Check.BEYOND, x -> x.change(0, -1, 1));
        c.refused("4 what 2", eight(), Check.BEYOND, x -> x.change(0, 2, 1));
        c.refused("4 kind -1", eight(), Check.BEYOND, x -> x.change(0, 0, -1));
        c.refused("4 kind 7", eight(), Check.BEYOND, x -> x.change(0, 0, 7));
        c.refused("4 size 0", eight(), Check.BEYOND, x -> x.change(0, 1, 0));
        c.refused("4 size 10", eight(), Check.BEYOND, x -> x.change(0, 1, 10));
        c.refused("4 size lowest", eight(), Check.BEYOND, x -> x.change(0, 1, LOWEST));
        c.refused("4 what ahead of a kind", eight(), Check.BEYOND, x -> x.change(0, 2, 7));
        c.is("4 kind 0", eight().change(6, 0, 0), 6);
        c.is("4 kind 6", eight().change(0, 0, 6), 0);
        PunchByHeart x = eight();
        c.is("4 size 1", x.change(7, 1, 1), 3);
        c.is("4 size 9", x.change(7, 1, 9), 1);
        c.is("4 size then", x.of(7, 1), 9);
    }

    private void promise5Hooks() {
        c.refused("5 one and the same", eight(), Check.BEYOND, x -> x.hooks(3, 3));
        c.refused("5 a -1", eight(), Check.BEYOND, x -> x.hooks(-1, 0));
        c.refused("5 b -1", eight(), Check.BEYOND, x -> x.hooks(0, -1));
        c.refused("5 a 8", eight(), Check.BEYOND, x -> x.hooks(8, 0));
        c.refused("5 b 8", eight(), Check.BEYOND, x -> x.hooks(0, 8));
        c.refused("5 the same, none", eight(), Check.BEYOND, x -> x.hooks(-1, -1));
        c.is("5 the hook of the first then", eight().hooks(0, 7), 7);
        c.is("5 of the first, not the lesser", eight().hooks(7, 0), 0);
    }

    private void promise6Leaves() {
        c.refused("6 -1", eight(), Check.BEYOND, x -> x.leaves(-1));
        c.refused("6 11", eight(), Check.BEYOND, x -> x.leaves(11));
        c.refused("6 highest", eight(), Check.BEYOND, x -> x.leaves(HIGHEST));
        PunchByHeart x = eight();
        c.is("6 10", x.leaves(10), 0);
        c.is("6 0", x.leaves(0), 10);
        c.is("6 then", x.now(4), 0);
    }

    private void promise7Beat() {
        c.refused("7 cast -1", eight(), Check.BEYOND, x -> x.beat(-1, -1));
        c.refused("7 cast 256 of eight", eight(), Check.BEYOND, x -> x.beat(256, -1));
        c.refused("7 cast 4 of two", Check.withDolls(0, 0), Check.BEYOND, x -> x.beat(4, -1));
        c.refused("7 cast 1 of none", new PunchByHeart(), Check.BEYOND, x -> x.beat(1, -1));
        c.refused("7 cast lowest", eight(), Check.BEYOND, x -> x.beat(LOWEST, -1));
        c.refused("7 speaks -2", eight(), Check.BEYOND, x -> x.beat(0, -2));
        c.refused("7 speaks 8", eight(), Check.BEYOND, x -> x.beat(0, 8));
        c.refused("7 speaks 0 of none", new PunchByHeart(), Check.BEYOND, x -> x.beat(0, 0));
        c.is("7 cast 255 of eight", eight().beat(255, 7), 0);
        c.is("7 cast 3 of two", Check.withDolls(0, 0).beat(3, 1), 0);
        c.is("7 an empty cast", new PunchByHeart().beat(0, -1), 0);
        PunchByHeart eleven = twelve();
        eleven.cut(11);
        c.is("7 the 12th", eleven.beat(3, 0), 11);
        c.refused("7 a 13th: full", twelve(), Check.FULL, x -> x.beat(1, 0));
        c.refused("7 cast is asked ahead of full", twelve(), Check.BEYOND, x -> x.beat(4, 0));
        c.refused("7 speaks is asked ahead of full", twelve(), Check.BEYOND, x -> x.beat(1, 2));
    }

    private void promise8Told() {
        c.refused("8 beat -1", twelve(), Check.BEYOND, x -> x.told(-1, 0));
        c.refused("8 beat 12", twelve(), Check.BEYOND, x -> x.told(12, 0));
        c.refused("8 what -1", twelve(), Check.BEYOND, x -> x.told(0, -1));
        c.refused("8 what 3", twelve(), Check.BEYOND, x -> x.told(0, 3));
        c.is("8 what 0 of the last", twelve().told(11, 0), 3);
        c.is("8 what 1: nobody", twelve().told(11, 1), -1);
        c.is("8 what 2 of the first", twelve().told(0, 2), 0);
    }

    private void wrong(String what, int cast, int speaks, int due) {
        PunchByHeart x = eight();
        x.beat(cast, speaks);
        c.is("8 " + what, x.told(0, 2), due);
        c.is("11 " + what, x.wrong(), due);
    }

    private void promise8Wrong() {
        wrong("nobody is on", 0, -1, 0);
        wrong("one, who speaks", 1, 0, 0);
        wrong("two, nobody speaks", 129, -1, 0);
        wrong("three", 1 + 4 + 32, -1, 1);
        wrong("all", 255, -1, 1);
        wrong("who speaks isn't on", 1, 7, 1);
        wrong("who speaks isn't on, and nobody is", 0, 0, 1);
        wrong("two that want the left hand", 8 + 16, -1, 1);
        wrong("left and right", 2 + 8, 3, 0);
        wrong("punch and a ghost, who wants any", 2 + 4, -1, 0);
        wrong("punch and a beadle, who wants any", 2 + 64, -1, 0);
        wrong("jawed and a dog", 8 + 32, -1, 0);
        PunchByHeart x = Check.withDolls(Check.PUNCH, Check.PUNCH);
        x.beat(3, -1);
        c.is("8 two that want the right hand", x.told(0, 2), 1);
    }

    private void promise9Tell() {
        c.refused("9 beat -1", twelve(), Check.BEYOND, x -> x.tell(-1, 0, 0));
        c.refused("9 beat 12", twelve(), Check.BEYOND, x -> x.tell(12, 0, 0));
        c.refused("9 what -1", twelve(), Check.BEYOND, x -> x.tell(0, -1, 0));
        c.refused("9 what 2", twelve(), Check.BEYOND, x -> x.tell(0, 2, 0));
        c.refused("9 cast -1", twelve(), Check.BEYOND, x -> x.tell(0, 0, -1));
        c.refused("9 cast 4", twelve(), Check.BEYOND, x -> x.tell(0, 0, 4));
        c.refused("9 speaks -2", twelve(), Check.BEYOND, x -> x.tell(0, 1, -2));
        c.refused("9 speaks 2", twelve(), Check.BEYOND, x -> x.tell(0, 1, 2));
        PunchByHeart x = twelve();
        c.is("9 cast 0", x.tell(11, 0, 0), 3);
        c.is("9 cast 3", x.tell(11, 0, 3), 0);
        c.is("9 speaks 1", x.tell(11, 1, 1), -1);
        c.is("9 speaks -1", x.tell(11, 1, -1), 1);
    }

    private void promise10Cut() {
        c.refused("10 beat -1", twelve(), Check.BEYOND, x -> x.cut(-1));
        c.refused("10 beat 12", twelve(), Check.BEYOND, x -> x.cut(12));
        c.refused("10 of none", new PunchByHeart(), Check.BEYOND, x -> x.cut(0));
        PunchByHeart x = twelve();
        c.is("10 the last", x.cut(11), 11);
        c.is("10 those ahead stay", x.told(10, 0), 2);
        c.is("10 the first", x.cut(0), 10);
        for (int k = 0; k < 10; k++) {
            c.is("10 those behind move up " + k, x.told(k, 0), (k + 1) % 4);
        }
        PunchByHeart y = new PunchByHeart();
        y.beat(0, -1);
        c.is("10 the only one", y.cut(0), 0);
    }

    private void promise11Wrong() {
        c.is("11 no beats", new PunchByHeart().wrong(), 0);
        PunchByHeart x = Check.withDolls(0, 0);
        for (int k = 0; k < 12; k++) {
            x.beat(1, 1);
        }
        c.is("11 all twelve", x.wrong(), 4095);
        x.tell(11, 1, 0);
        c.is("11 all but the last", x.wrong(), 2047);
    }

    private void whistle(String what, int due, int... speaks) {
        PunchByHeart x = Check.withDolls(0, Check.PUNCH, Check.GHOST, Check.PUNCH);
        for (int d : speaks) {
            x.beat(15, d);
        }
        c.is("12 " + what, x.whistle(), due);
    }

    private void promise12Whistle() {
        whistle("no beats", 0);
        whistle("nobody speaks", 0, -1, -1);
        whistle("the first, through the whistle", 0, 1);
        whistle("the first that has one", 0, -1, 1);
        whistle("the same", 0, 1, 1);
        whistle("the same voice", 0, 1, 3, 3);
        whistle("another, to the whistle", 1, 0, 1);
        whistle("another, from the whistle", 1, 1, 0);
        whistle("the latest that has one, far ahead", 1, 1, -1, -1, 2, -1);
        whistle("nobody between the same", 0, 1, -1, 3);
        whistle("each of twelve but the first", 11, 0, 1, 0, 1, 0, 1, 0, 1, 0, 1, 0, 1);
    }

    private void promise13Puts() {
        c.refused("13 hand -1", eight(), Check.BEYOND, x -> x.puts(-1, 0));
        c.refused("13 hand 2", eight(), Check.BEYOND, x -> x.puts(2, 0));
        c.refused("13 doll -2", eight(), Check.BEYOND, x -> x.puts(0, -2));
        c.refused("13 doll 8", eight(), Check.BEYOND, x -> x.puts(0, 8));
        for (int h = 0; h < 2; h++) {
            int hand = h;
            PunchByHeart y = eight();
            y.puts(1 - hand, 3);
            c.refused("13 the other one holds it", y, Check.STATE, x -> x.puts(hand, 3));
            c.is("13 both may hold nothing", eight().puts(hand, -1), 0);
            c.is("13 the last one, on the last hook", eight().puts(hand, 7), 3 + 7);
            c.is("13 from the first hook", eight().puts(hand, 0), 3);
            c.is("13 punch in any hand", eight().puts(hand, 1), 1 + 1);
            PunchByHeart z = eight();
            z.puts(hand, 4);
            c.is("13 the same: no change", z.puts(hand, 4), 0);
            c.is("13 the same isn't counted", z.now(0), 1);
            c.is("13 nothing, but held one: 1", z.puts(hand, -1), 1);
            c.is("13 counted", z.now(0), 2);
            c.is("13 its time", z.now(1), 9 + 4 + 1);
        }
    }

    private void promise14Hand() {
        c.refused("14 hand -1", eight(), Check.BEYOND, x -> x.hand(-1));
        c.refused("14 hand 2", eight(), Check.BEYOND, x -> x.hand(2));
        PunchByHeart x = eight();
        x.puts(1, 7);
        c.is("14 left", x.hand(0), -1);
        c.is("14 right", x.hand(1), 7);
    }

    private void suits(String what, int cast, int left, int right, int due) {
        PunchByHeart x = eight();
        x.beat(cast, -1);
        x.puts(0, left);
        x.puts(1, right);
        c.is("15 " + what, x.suits(0), due);
    }

    private void promise15Suits() {
        c.refused("15 beat -1", twelve(), Check.BEYOND, x -> x.suits(-1));
        c.refused("15 beat 12", twelve(), Check.BEYOND, x -> x.suits(12));
        suits("nobody, nothing", 0, -1, -1, 1);
        suits("nobody, two in hands that they don't want", 0, 1, 3, 1);
        suits("one, nothing", 1, -1, -1, 0);
        suits("one, and another one in a hand that it doesn't want", 1, 1, 0, 1);
        suits("punch in the right hand", 2, -1, 1, 1);
        suits("punch in the left hand", 2, 1, -1, 0);
        suits("a crocodile in the left hand", 16, 4, -1, 1);
        suits("a crocodile in the right hand", 16, -1, 4, 0);
        suits("two, one of them", 33, 0, -1, 0);
        suits("two", 33, 0, 5, 1);
        suits("two, the other way round", 33, 5, 0, 1);
        suits("two, in each other's hands", 10, 1, 3, 0);
        suits("three: never", 1 + 4 + 32, 0, 2, 0);
        PunchByHeart x = eight();
        x.beat(1, 5);
        x.puts(0, 0);
        c.is("15 a hold suits although who speaks isn't on", x.suits(0), 1);
    }

    private void promise16Now() {
        c.refused("16 what -1", eight(), Check.BEYOND, x -> x.now(-1));
        c.refused("16 what 5", eight(), Check.BEYOND, x -> x.now(5));
        c.is("16 what 0", eight().now(0), 0);
        PunchByHeart x = eight();
        x.leaves(10);
        c.is("16 what 4", x.now(4), 10);
        PunchByHeart y = Check.withDolls(Check.DOG);
        y.leaves(10);
        y.beat(1, 0);
        y.puts(0, 0);
        y.plays();
        y.plays();
        c.is("16 what the hands hold already isn't counted", y.now(0), 1);
        c.is("16 nor its time", y.now(1), 1);
        c.is("16 played, also if lost", y.now(2), 2);
        c.is("16 lost ever", y.now(3), 2);
    }
}
