/** Promises 26 and 27: what may have been, by a drawing of the left hand. */
public final class DrawingsTest {
    public static void main(String[] args) {
        Check check = new Check("DrawingsTest");
        fits(check);
        many(check);
        maybe(check);
        check.end();
    }

    private static void fits(Check c) {
        PunchByHeart x = Check.withDolls(Check.PUNCH, Check.JAWED, 0);
        c.is("26 sheet 4", x.fits(4), Check.BEYOND);
        c.is("26 sheet -1", x.fits(-1), Check.BEYOND);
        c.is("26 missing", x.fits(0), Check.MISSING);
        Check.row(x, 0, 8, -1, 1, 50);
        c.is("26 no beats: one row", x.fits(0), 1);
        x.beat(1, 0);
        c.is("26 nothing in the left", x.fits(0), 1);
        x.beat(3, 0);
        c.is("26 and the jawed one", x.fits(0), 1);
        x.beat(0, -1);
        c.is("26 and any", x.fits(0), 13);
        x.beat(4, 2);
        c.is("26 and one beyond it", x.fits(0), 13 * 6);
        x.write(0, 1, 0);
        c.is("26 the wrong hand", x.fits(0), 0);
        x.write(0, 1, -2);
        c.is("26 below nothing: any", x.fits(0), 13 * 6);
        x.write(0, 1, 3);
        c.is("26 no such doll: any", x.fits(0), 13 * 6);
        x.write(0, 1, 255);
        c.is("26 255 of 8 bits: nothing", x.fits(0), 0);
        x.sheet(1, 32, 0);
        x.tell(3, 1, 0);
        c.is("26 an empty sheet, a wrong speaker", x.fits(1), 3 * 13 * 6);
    }

    private static void many(Check c) {
        PunchByHeart x = Check.withDolls(0, 0, 0, 0, 0, 0, 0, 0);
        x.sheet(0, 8, 0);
        for (int k = 0; k < 4; k++) {
            x.beat(0, -1);
        }
        c.is("26 much", x.fits(0), 73 * 73 * 73 * 73);
        x.beat(0, -1);
        c.is("26 too much", x.fits(0), Check.SIZE);
        for (int k = 5; k < 11; k++) {
            x.beat(0, -1);
        }
        x.beat(7, -1);
        c.is("26 none is not too much", x.fits(0), 0);
        c.is("27 none", x.maybe(0, 0), 0);
        x.cut(11);
        x.beat(0, -1);
        c.is("26 far too much", x.fits(0), Check.SIZE);
        c.is("27 is no finding there", x.maybe(0, 11), 255);
        // With five dolls of any hand ten holds suit a cast of one.
        x = Check.withDolls(0, 0, 0, 0, 0);
        x.sheet(0, 8, 0);
        for (int k = 0; k < 9; k++) {
            x.beat(1 << k % 5, -1);
        }
        c.is("26 the most", x.fits(0), 1000000000);
        x.beat(3, -1);
        c.is("26 twice the most", x.fits(0), Check.SIZE);
    }

    private static void maybe(Check c) {
        PunchByHeart x = Check.withDolls(Check.PUNCH, Check.JAWED, 0);
        c.is("27 sheet 4", x.maybe(4, 0), Check.BEYOND);
        c.is("27 missing ahead of beat", x.maybe(3, 0), Check.MISSING);
        Check.row(x, 3, 16, -1, 2, 9);
        c.is("27 beat 0", x.maybe(3, 0), Check.BEYOND);
        x.beat(0, -1);
        x.beat(5, -1);
        x.beat(4, -1);
        x.beat(2, -1);
        c.is("27 any", x.maybe(3, 0), 7);
        c.is("27 only one", x.maybe(3, 1), 1);
        c.is("27 either", x.maybe(3, 2), 7);
        c.is("27 the jawed one is left", x.maybe(3, 3), 5);
        c.is("27 beat 4", x.maybe(3, 4), Check.BEYOND);
        c.is("27 beat -1", x.maybe(3, -1), Check.BEYOND);
        x.write(3, 1, 0);
        c.is("27 no row: none", x.maybe(3, 0), 0);
    }
}
