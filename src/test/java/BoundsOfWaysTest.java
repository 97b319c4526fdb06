/** Each boundary that promises 17 to 32 name, on an object of its own. */
public final class BoundsOfWaysTest {
    private static final int LOWEST = Integer.MIN_VALUE;
    private static final int HIGHEST = Integer.MAX_VALUE;

    private final Check c = new Check("BoundsOfWaysTest");

    public static void main(String[] args) {
        BoundsOfWaysTest test = new BoundsOfWaysTest();
        test.promise17Least();
        test.promise18Held();
        test.promise19Part();
        test.promise20Dear();
        test.promise21Rehang();
        test.promise23KindFor();
        test.promise24Mayor();
        test.promise25Leave();
        test.promise26Fits();
        test.promise26Many();
        test.promise27Maybe();
        test.promise28Dogs();
        test.promise29Stays();
        test.promise30Plays();
        test.promise31Ahead();
        test.promise32Seed();
        test.c.end();
    }

    /** Plain dolls, and beats with these casts in which nobody speaks. */
    private static PunchByHeart play(int dolls, int... casts) {
        PunchByHeart x = Check.withDolls(new int[dolls]);
        for (int cast : casts) {
            x.beat(cast, -1);
        }
        return x;
    }

    /** A play of three beats, the middle one of which is wrong. */
    private static PunchByHeart stuck() {
        PunchByHeart x = play(3, 1, 2, 4);
        x.tell(1, 1, 0);
        return x;
    }

    private static PunchByHeart withHands(PunchByHeart x, int left, int right) {
        x.puts(0, left);
        x.puts(1, right);
        return x;
    }

    private void promise17Least() {
        c.refused("17 what -1", play(1, 1), Check.BEYOND, x -> x.least(-1));
        c.refused("17 what 2", play(1, 1), Check.BEYOND, x -> x.least(2));
        c.refused("17 a beat is wrong: state", stuck(), Check.STATE, x -> x.least(0));
        c.refused("17 state by time, too", stuck(), Check.STATE, x -> x.least(1));
        c.refused("17 what is asked ahead of state", stuck(), Check.BEYOND, x -> x.least(2));
        c.is("17 no beats, no dolls", new PunchByHeart().least(0), 0);
        c.is("17 no beats, full hands", withHands(play(2), 0, 1).least(1), 0);
        c.is("17 an empty cast: no change", withHands(play(2, 0), 0, 1).least(0), 0);
        c.is("17 the first from the hands", withHands(play(2, 1), -1, 0).least(0), 0);
        c.is("17 a change for each hand", play(2, 3).least(0), 2);
        c.is("17 time: on, and the hook", play(8, 128).least(1), 3 + 7);
        PunchByHeart x = Check.withDolls(Check.PUNCH);
        x.beat(1, 0);
        withHands(x, 0, -1);
        c.is("17 also nothing is a change", x.least(0), 2);
        c.is("17 nothing takes 1", x.least(1), 1 + 1);
    }

    private void held(String what, PunchByHeart x, int beat, int left, int right) {
        c.is("18 " + what + ": left", x.held(beat, 0, 0), left);
        c.is("18 " + what + ": right", x.held(beat, 1, 0), right);
    }

    private void promise18Held() {
        c.refused("18 beat -1", play(3, 1, 2), Check.BEYOND, x -> x.held(-1, 0, 0));
        c.refused("18 beat 2", play(3, 1, 2), Check.BEYOND, x -> x.held(2, 0, 0));
        c.refused("18 of none", play(3), Check.BEYOND, x -> x.held(0, 0, 0));
        c.refused("18 hand -1", play(3, 1, 2), Check.BEYOND, x -> x.held(0, -1, 0));
        c.refused("18 hand 2", play(3, 1, 2), Check.BEYOND, x -> x.held(0, 2, 0));
        c.refused("18 what -1", play(3, 1, 2), Check.BEYOND, x -> x.held(0, 0, -1));
        c.refused("18 what 2", play(3, 1, 2), Check.BEYOND, x -> x.held(0, 0, 2));
        c.refused("18 a beat is wrong: state", stuck(), Check.STATE, x -> x.held(0, 0, 0));
        c.refused("18 beyond is asked ahead", stuck(), Check.BEYOND, x -> x.held(3, 0, 0));
        held("nothing ahead of dolls, left ahead of right", play(2, 1), 0, -1, 0);
        held("the lesser in the left", play(2, 3), 0, 0, 1);
        held("nothing is put away in vain", withHands(play(3, 0), 2, 1), 0, 2, 1);
        held("the first of several by the left hand", withHands(play(4, 1), 2, 3), 0, 0, 3);
        held("beats by numbers: early rather than late", play(2, 0, 1), 0, -1, -1);
        held("the last of twelve", play(2, 1, 2, 1, 2, 1, 2, 1, 2, 1, 2, 1, 2), 11, 1, 0);
    }

    private void promise19Part() {
        c.refused("19 a -1", play(3, 1, 2), Check.BEYOND, x -> x.part(-1, 0, 0));
        c.refused("19 b 2", play(3, 1, 2), Check.BEYOND, x -> x.part(0, 2, 0));
        c.refused("19 a 2", play(3, 1, 2), Check.BEYOND, x -> x.part(2, 2, 0));
        c.refused("19 a above b", play(3, 1, 2), Check.BEYOND, x -> x.part(1, 0, 0));
        c.refused("19 of none", play(3), Check.BEYOND, x -> x.part(0, 0, 0));
        c.refused("19 what -1", play(3, 1, 2), Check.BEYOND, x -> x.part(0, 1, -1));
        c.refused("19 what 2", play(3, 1, 2), Check.BEYOND, x -> x.part(0, 1, 2));
        c.refused("19 one is wrong: state", stuck(), Check.STATE, x -> x.part(1, 1, 0));
        c.refused("19 the last is wrong", stuck(), Check.STATE, x -> x.part(0, 1, 0));
        c.refused("19 the first is wrong", stuck(), Check.STATE, x -> x.part(1, 2, 1));
        c.refused("19 beyond is asked ahead", stuck(), Check.BEYOND, x -> x.part(2, 1, 0));
        c.is("19 a as b", play(3, 1, 2).part(1, 1, 0), 1);
        c.is("19 alone, if others are wrong", stuck().part(2, 2, 1), 3 + 2);
        c.is("19 up to the wrong one", stuck().part(0, 0, 0), 1);
        c.is("19 all", play(3, 1, 2, 4).part(0, 2, 0), 3);
        c.is("19 from the hands, not from the beat ahead", play(2, 1, 1).part(1, 1, 0), 1);
    }

    private void promise20Dear() {
        c.refused("20 no beats: none", play(2), Check.NONE, x -> x.dear());
        c.refused("20 a beat is wrong: state", stuck(), Check.STATE, x -> x.dear());
        c.is("20 the only one", play(2, 1).dear(), 0);
        c.is("20 the last", play(4, 1, 1, 12).dear(), 2);
        c.is("20 of several the least", play(2, 1, 2).dear(), 0);
        c.is("20 the 12th", play(3, 1, 1, 1, 1, 1, 1, 1, 1, 1, 1, 1, 2).dear(), 11);
    }

    private void promise21Rehang() {
        c.refused("21 a beat is wrong: state", stuck(), Check.STATE, x -> x.rehang());
        c.refused("22 a beat is wrong: state", stuck(), Check.STATE, x -> x.rehung());
        c.is("21 no dolls", new PunchByHeart().rehang(), 0);
        c.is("22 no dolls", new PunchByHeart().rehung(), 0);
        c.is("21 one doll", play(1, 1).rehang(), 0);
        c.is("22 one doll", play(1, 1).rehung(), 3);
        c.is("21 as they are, if none is less", play(3, 1).rehang(), 0);
        c.is("21 0 and 1", play(3, 2).rehang(), 1);
        c.is("21 0 and 7", play(8, 128).rehang(), 7);
        c.is("22 0 and 7", play(8, 128).rehung(), 3);
        PunchByHeart y = Check.withDolls(0, Check.PUNCH, Check.PUNCH);
        y.beat(2, 1);
        y.beat(4, 2);
        y.beat(2, 1);
        c.is("21 of several the least", y.rehang(), 1);
        c.is("22 of several", y.rehung(), 1 + 3 + 1);
        PunchByHeart x = play(8, 128);
        x.hooks(7, 0);
        x.hooks(6, 7);
        c.is("21 hooks were changed: the lesser doll ahead", x.rehang(), 67);
    }

    private void promise23KindFor() {
        c.refused("23 doll -1", play(2, 1), Check.BEYOND, x -> x.kindFor(-1));
        c.refused("23 doll 2", play(2, 1), Check.BEYOND, x -> x.kindFor(2));
        c.refused("23 of none", new PunchByHeart(), Check.BEYOND, x -> x.kindFor(0));
        c.is("23 no beats: of several the least", play(2).kindFor(1), 0);
        PunchByHeart x = Check.withDolls(Check.CROCODILE, Check.BEADLE);
        x.beat(3, 0);
        c.is("23 of several the least, not what it is", x.kindFor(1), 0);
        c.is("23 it remains what it is", x.of(1, 0), Check.BEADLE);
        c.is("23 the play needn't go", stuck().kindFor(2), 0);
    }

    private void promise24Mayor() {
        c.refused("24 doll -1", play(2, 1), Check.BEYOND, x -> x.mayor(-1));
        c.refused("24 doll 2", play(2, 1), Check.BEYOND, x -> x.mayor(2));
        c.refused("24 no other one", play(1, 1), Check.NONE, x -> x.mayor(0));
        c.refused("24 together with all others", play(2, 3), Check.NONE, x -> x.mayor(0));
        c.refused("24 together in one cast of many", play(3, 2, 1, 3, 5), Check.NONE, x -> x.mayor(0));
        c.refused("24 it wouldn't go", stuck(), Check.NONE, x -> x.mayor(2));
        c.is("24 no beats: of several the least", play(3).mayor(0), 1);
        c.is("24 not itself", play(3).mayor(1), 0);
        c.is("24 who isn't together with it", play(3, 3).mayor(0), 2);
        c.is("24 the play needn't go as it is", stuck().mayor(0), 1);
        PunchByHeart x = Check.withDolls(Check.JAWED, 0, Check.CROCODILE);
        x.beat(3, 0);
        x.beat(2, 1);
        c.is("24 two that want the left can't be", x.mayor(2), 0);
        x.change(0, 0, Check.DOG);
        x.change(1, 0, Check.JAWED);
        c.is("24 only the one with whom it goes", x.mayor(2), 1);
    }

    private void promise25Leave() {
        c.refused("25 v -1", play(2, 1), Check.BEYOND, x -> x.leave(-1));
        c.refused("25 v 100", play(2, 1), Check.BEYOND, x -> x.leave(100));
        c.refused("25 v lowest", play(2, 1), Check.BEYOND, x -> x.leave(LOWEST));
        c.is("25 v 0", play(2, 1).leave(0), 1);
        c.is("25 v 99", play(2, 1).leave(99), 0);
        c.is("25 v as much as it is worth", play(2, 1, 2).leave(2), 0);
        c.is("25 v one less", play(2, 1, 2).leave(1), 1);
        c.is("25 no beats", play(2).leave(0), 0);
        c.is("25 the wrong one", stuck().leave(99), 1);
        PunchByHeart x = play(2);
        for (int k = 0; k < 12; k++) {
            x.beat(1, 1);
        }
        c.is("25 all twelve are wrong", x.leave(99), 12);
        c.is("25 all twelve cost", play(1, 1, 1, 1, 1, 1, 1, 1, 1, 1, 1, 1, 1).leave(0), 12);
        c.is("25 from the hands", withHands(play(1, 1, 1), 0, -1).leave(0), 0);
    }

    private void fits(String what, int due, PunchByHeart x, int bits, int... drawn) {
        Check.row(x, 3, bits, drawn);
        c.is("26 " + what, x.fits(3), due);
    }

    private void promise26Fits() {
        c.refused("26 sheet -1", play(1, 1), Check.BEYOND, x -> x.fits(-1));
        c.refused("26 sheet 4", play(1, 1), Check.BEYOND, x -> x.fits(4));
        c.refused("26 missing", play(1, 1), Check.MISSING, x -> x.fits(3));
        fits("no beats: one row", 1, play(2), 8, 0, 1);
        fits("an empty sheet: any", 3, play(1, 0), 8);
        fits("-1: nothing", 2, play(1, 0), 8, -1);
        fits("255 of 8 bits: nothing", 2, play(1, 0), 8, 255);
        fits("255 of 16 bits: any", 3, play(1, 0), 16, 255);
        fits("-2: any", 3, play(1, 0), 8, -2);
        fits("doll 0", 1, play(1, 0), 8, 0);
        fits("no such doll: any", 3, play(1, 0), 8, 1);
        fits("the last doll", 8, play(8, 0), 32, 7);
        fits("no such doll of eight: any", 73, play(8, 0), 32, 8);
        fits("beats beyond it: any", 3, play(1, 0, 0), 8, 0);
        fits("numbers beyond the beats", 1, play(1, 0), 8, 0, -1, 0);
        fits("no row", 0, play(2, 0, 3), 8, -2, -1);
        fits("three in a cast: no row", 0, play(3, 7), 8);
    }

    private void promise26Many() {
        int[] tens = {1, 2, 4, 8, 16, 1, 2, 4, 8};
        fits("1000000000", 1000000000, play(5, tens), 8);
        PunchByHeart more = play(5, tens);
        more.beat(3, -1);
        more.sheet(0, 8, 0);
        c.refused("26 more than that: size", more, Check.SIZE, x -> x.fits(0));
        PunchByHeart most = play(8, 0, 0, 0, 0, 0, 0, 0, 0, 0, 0, 0, 0);
        most.sheet(0, 8, 0);
        c.refused("26 as many as there can be: size", most, Check.SIZE, x -> x.fits(0));
        most.tell(11, 0, 7);
        c.is("26 none of as many", most.fits(0), 0);
    }

    private void maybe(String what, int due, PunchByHeart x, int beat, int... drawn) {
        Check.row(x, 0, 8, drawn);
        c.is("27 " + what, x.maybe(0, beat), due);
    }

    private void promise27Maybe() {
        PunchByHeart y = play(1, 1);
        y.sheet(0, 8, 0);
        c.refused("27 sheet -1", play(1, 1), Check.BEYOND, x -> x.maybe(-1, 0));
        c.refused("27 sheet 4", play(1, 1), Check.BEYOND, x -> x.maybe(4, 0));
        c.refused("27 missing", play(1, 1), Check.MISSING, x -> x.maybe(0, 0));
        c.refused("27 missing is asked ahead of the beat", play(1, 1), Check.MISSING, x -> x.maybe(0, 1));
        c.refused("27 the sheet is asked first of all", play(1, 1), Check.BEYOND, x -> x.maybe(4, 1));
        c.refused("27 beat -1", y, Check.BEYOND, x -> x.maybe(0, -1));
        c.refused("27 beat 1", y, Check.BEYOND, x -> x.maybe(0, 1));
        c.refused("27 beat highest", y, Check.BEYOND, x -> x.maybe(0, HIGHEST));
        maybe("any", 255, play(8, 0), 0);
        maybe("nothing but nothing", 0, play(1, 1), 0, 0);
        maybe("not what the left hand holds", 6, play(3, 0), 0, 0);
        maybe("no row by this beat", 0, play(3, 3, 0), 0, 2);
        maybe("no row by another beat", 0, play(3, 0, 3), 0, -1, -1);
        maybe("a wrong speaker is none of it", 1, stuck(), 0, -1);
        maybe("more rows than fits() tells", 255, play(8, 0, 0, 0, 0, 0, 0), 5);
    }

    private void promise28Dogs() {
        c.is("28 no beats", Check.withDolls(Check.DOG).dogs(), 0);
        PunchByHeart x = Check.withDolls(0, 1, 2, 3, 4, 5, 6);
        for (int d = 0; d < 7; d++) {
            x.beat(1 << d, -1);
        }
        c.is("28 a dog alone of all kinds", x.dogs(), 1 << 5);
        PunchByHeart y = Check.withDolls(Check.DOG);
        for (int k = 0; k < 12; k++) {
            y.beat(1, -1);
        }
        c.is("28 all twelve", y.dogs(), 4095);
        PunchByHeart z = Check.withDolls(Check.DOG, 0);
        z.beat(2, 0);
        c.is("28 who speaks alone isn't in the cast", z.dogs(), 0);
        z.tell(0, 0, 3);
        z.tell(0, 1, 1);
        c.is("28 in the cast", z.dogs(), 1);
    }

    private void odds(int leaves, int dogs, long above, long below) {
        PunchByHeart x = dogs(leaves, dogs);
        c.is("29 above, leaves " + leaves + " dogs " + dogs, x.stays(0), above);
        c.is("29 below, leaves " + leaves + " dogs " + dogs, x.stays(1), below);
        c.is("29 no finding", x.status(-1), 0);
    }

    /** As many dogs in all casts together. */
    private static PunchByHeart dogs(int leaves, int dogs) {
        PunchByHeart x = Check.withDolls(5, 5, 5, 5, 5, 5, 5, 5);
        x.leaves(leaves);
        for (int left = dogs; left > 0; left -= 8) {
            x.beat((1 << Math.min(8, left)) - 1, -1);
        }
        return x;
    }

    private void promise29Stays() {
        c.refused("29 what -1", dogs(3, 3), Check.BEYOND, x -> (int) x.stays(-1));
        c.refused("29 what 2", dogs(3, 3), Check.BEYOND, x -> (int) x.stays(2));
        odds(3, 0, 1, 1);
        odds(10, 0, 1, 1);
        odds(0, 96, 1, 1);
        odds(10, 1, 0, 1);
        odds(10, 96, 0, 1);
        odds(1, 1, 9, 10);
        odds(2, 2, 16, 25);
        odds(4, 1, 3, 5);
        odds(5, 1, 1, 2);
        odds(6, 2, 4, 25);
        odds(8, 1, 1, 5);
        odds(9, 15, 1, 1000000000000000L);
        odds(7, 15, 14348907, 1000000000000000L);
        odds(5, 49, 1, 1L << 49);
        odds(8, 21, 1, 476837158203125L);
        for (int i = 0; i < 2; i++) {
            int what = i;
            c.refused("29 10 to the 16th: size", dogs(9, 16), Check.SIZE, x -> x.stays(what));
            c.refused("29 2 to the 50th: size", dogs(5, 50), Check.SIZE, x -> x.stays(what));
            c.refused("29 5 to the 22nd: size", dogs(8, 22), Check.SIZE, x -> x.stays(what));
            c.refused("29 as many as can be", dogs(1, 96), Check.SIZE, x -> x.stays(what));
        }
        c.refused("29 what is asked ahead of size", dogs(9, 16), Check.BEYOND, x -> x.stays(2));
    }

    private void promise30Plays() {
        c.refused("30 no beats: state", play(2), Check.STATE, x -> x.plays());
        c.refused("30 a beat is wrong: state", stuck(), Check.STATE, x -> x.plays());
        c.is("30 leaves 0: none is lost", dogs(0, 2).plays(), 0);
        c.is("30 leaves 10: each is lost", dogs(10, 2).plays(), 1);
        PunchByHeart x = Check.withDolls(Check.DOG, 0);
        x.leaves(10);
        x.beat(1, -1);
        x.beat(2, -1);
        x.beat(1, -1);
        c.is("30 a beat without a dog isn't lost", x.plays(), 2);
        int once = 1103515245 + 12345;
        c.is("30 a draw for each dog, and none else", x.count(6), once * 1103515245 + 12345);
        PunchByHeart y = dogs(10, 2);
        y.plays();
        c.is("30 two dogs leave, one beat is lost", y.now(3), 1);
        c.is("30 a draw for each of both", y.count(6), once * 1103515245 + 12345);
        PunchByHeart z = dogs(0, 1);
        z.plays();
        c.is("30 a draw, also if leaves is 0", z.count(6), once);
        PunchByHeart v = play(2, 1, 0);
        v.plays();
        c.is("30 the hands hold what they hold in the last beat", v.hand(1), 0);
    }

    private void draw(int z, int rest) {
        for (int leaves = 0; leaves <= 10; leaves++) {
            PunchByHeart x = dogs(leaves, 1);
            x.seed(z);
            c.is("30 z " + z + " leaves " + leaves, x.plays(), rest < leaves ? 1 : 0);
        }
    }

    private void promise31Ahead() {
        c.refused("31 n -1", dogs(3, 1), Check.BEYOND, x -> x.ahead(-1));
        c.refused("31 n 21", dogs(3, 1), Check.BEYOND, x -> x.ahead(21));
        c.refused("31 no beats: state", play(2), Check.STATE, x -> x.ahead(1));
        c.refused("31 no beats: state, also with 0", play(2), Check.STATE, x -> x.ahead(0));
        c.refused("31 a beat is wrong: state", stuck(), Check.STATE, x -> x.ahead(1));
        c.refused("31 n is asked ahead of state", stuck(), Check.BEYOND, x -> x.ahead(21));
        c.is("31 n 0", dogs(10, 1).ahead(0), 0);
        c.is("31 n 20", dogs(10, 1).ahead(20), 20);
        PunchByHeart x = dogs(5, 2);
        String before = Check.seen(x);
        x.ahead(20);
        c.isSo("31 nothing changes", Check.seen(x).equals(before));
        PunchByHeart y = Check.withDolls(Check.DOG);
        y.leaves(10);
        for (int k = 0; k < 12; k++) {
            y.beat(1, 0);
        }
        String all = Check.seen(y);
        c.is("31 as many as can be", y.ahead(20), 240);
        c.isSo("31 nothing changes, if all are lost", Check.seen(y).equals(all));
    }

    private void promise32Seed() {
        c.is("32 at first", new PunchByHeart().seed(0), 1);
        for (int z : new int[] {LOWEST, HIGHEST, -1, 0, Check.BEYOND, Check.SIZE, LOWEST + 1}) {
            PunchByHeart x = dogs(5, 1);
            x.seed(z);
            c.is("46 z " + z, x.count(6), z);
            x.plays();
            int then = (int) (z * 1103515245L + 12345L);
            c.is("32 a draw wraps around", x.seed(z), then);
            c.is("32 what it was is no finding", x.seed(1), z);
            c.is("47 no findings", x.status(-1), 0);
            draw(z, (int) (((then & 0xffffffffL) >> 8) % 10));
        }
    }
}
