/** Promises 36 to 42: spots, sheets, the reader. */
public final class SheetsTest {
    private static final int[][] UNDER = {
        {0}, {0, 1}, {0, 1, 2}, {0, 3}, {0, 3, 4}, {0, 5}, {0, 1, 2, 6},
    };

    public static void main(String[] args) {
        Check check = new Check("SheetsTest");
        spots(check);
        kinds(check);
        sheets(check);
        write(check);
        copy(check);
        load(check);
        judge(check);
        check.end();
    }

    private static void spots(Check c) {
        PunchByHeart x = Check.withDolls(0, Check.PUNCH);
        c.is("36 spot 10", x.hold(10, 0), Check.BEYOND);
        c.is("36 spot -1", x.hold(-1, 0), Check.BEYOND);
        c.is("36 doll 2", x.hold(0, 2), Check.BEYOND);
        c.is("36 doll -2", x.hold(0, -2), Check.BEYOND);
        c.is("36 spot 9", x.hold(9, 1), 1);
        c.is("36 spot 0", x.hold(0, 1), 1);
        c.is("46 spots", x.count(7), 2);
        c.is("37 spot 9", x.as(9, 1), 1);
        c.is("36 nothing", x.hold(9, -1), 1);
        c.is("37 nothing", x.as(9, 1), Check.MISSING);
        c.is("46 spots then", x.count(7), 1);
        c.is("36 another", x.hold(0, 0), 1);
        c.is("37 another", x.as(0, 0), 0);
    }

    private static void kinds(Check c) {
        PunchByHeart x = Check.withDolls(0, 1, 2, 3, 4, 5, 6);
        for (int d = 0; d < 7; d++) {
            x.hold(d, d);
            for (int kind = 0; kind < 7; kind++) {
                c.is("37 " + d + " as " + kind, x.as(d, kind), isUnder(d, kind) ? d : Check.KIND);
            }
        }
        c.is("37 spot 10", x.as(10, 0), Check.BEYOND);
        c.is("37 spot -1", x.as(-1, 0), Check.BEYOND);
        c.is("37 kind 7", x.as(0, 7), Check.BEYOND);
        c.is("37 kind -1", x.as(8, -1), Check.BEYOND);
        x.change(3, 0, Check.BEADLE);
        c.is("37 by its kind then", x.as(3, Check.GHOST), 3);
    }

    private static boolean isUnder(int kind, int top) {
        for (int one : UNDER[kind]) {
            if (one == top) {
                return true;
            }
        }
        return false;
    }

    private static void sheets(Check c) {
        PunchByHeart x = new PunchByHeart();
        c.is("38 sheet 4", x.sheet(4, 8, 1), Check.BEYOND);
        c.is("38 sheet -1", x.sheet(-1, 8, 1), Check.BEYOND);
        c.is("38 bits 7", x.sheet(0, 7, 1), Check.BEYOND);
        c.is("38 bits 64", x.sheet(0, 64, 1), Check.BEYOND);
        c.is("38 bits -8", x.sheet(0, -8, 1), Check.BEYOND);
        c.is("38 bits ahead of size", x.sheet(0, 24, -1), Check.BEYOND);
        c.is("38 n -1", x.sheet(0, 8, -1), Check.SIZE);
        c.is("38 n 41", x.sheet(0, 8, 41), Check.BEYOND);
        c.is("38 n 40", x.sheet(0, 8, 40), 40);
        c.is("38 a finding keeps it", x.sheet(0, 0, 41), Check.BEYOND);
        c.is("38 also with bits 0", x.sheet(0, 0, -1), Check.SIZE);
        c.is("39 number 39", x.write(0, 39, 1), 1);
        c.is("38 missing", x.sheet(0, 0, 40), 0);
        c.is("39 missing", x.write(0, 0, 1), Check.MISSING);
        c.is("38 empty", x.sheet(3, 32, 0), 0);
        c.is("39 empty", x.write(3, 0, 1), Check.BEYOND);
        // All 0 anew: a hold of doll 0 twice is none, but 0 and 1 is.
        x.doll(0);
        x.doll(0);
        x.beat(0, -1);
        Check.row(x, 1, 8, 1, 0);
        c.is("42 a hold", x.judge(1), 0);
        x.sheet(1, 8, 2);
        c.is("38 all 0", x.judge(1), 1);
        x.write(1, 1, 1);
        c.is("38 both 0", x.judge(1), 0);
    }

    private static void write(Check c) {
        PunchByHeart x = new PunchByHeart();
        c.is("39 sheet 4", x.write(4, 0, 0), Check.BEYOND);
        c.is("39 sheet -1", x.write(-1, 0, 0), Check.BEYOND);
        c.is("39 missing ahead of number", x.write(0, 50, 0), Check.MISSING);
        x.doll(0);
        x.sheet(0, 8, 1);
        x.sheet(1, 16, 1);
        x.sheet(2, 32, 1);
        c.is("39 number 1", x.write(0, 1, 0), Check.BEYOND);
        c.is("39 number -1", x.write(0, -1, 0), Check.BEYOND);
        int[] values = {9, 256 + 9, 65536 + 9, 255, 65535, -1, 128, 32768};
        int[][] sizes = {{9, 9, 9}, {9, 0, 0}, {9, 9, 0}};
        for (int i = 0; i < values.length; i++) {
            for (int s = 0; s < 3; s++) {
                x.change(0, 1, 5);
                c.is("39 write", x.write(s, 0, values[i]), 1);
                int size = i < 3 ? sizes[i][s] : 0;
                c.is("39 came " + values[i] + " on " + s, x.load(s), size > 0 ? 1 : 0);
                c.is("39 size", x.of(0, 1), size > 0 ? size : 5);
            }
        }
        // Their sign is told by drawings: -1 is nothing, above the dolls is any.
        x.beat(0, -1);
        x.write(0, 0, 255);
        c.is("39 255 of 8 bits", x.fits(0), 2);
        x.write(1, 0, 255);
        c.is("39 255 of 16 bits", x.fits(1), 3);
        x.write(1, 0, 65535);
        c.is("39 65535 of 16 bits", x.fits(1), 2);
        x.write(2, 0, 65535);
        c.is("39 65535 of 32 bits", x.fits(2), 3);
        x.write(2, 0, -1);
        c.is("39 -1 of 32 bits", x.fits(2), 2);
    }

    private static void copy(Check c) {
        PunchByHeart x = Check.withDolls(0, 0, 0, 0, 0, 0, 0, 0);
        c.is("40 sheet 4", x.copy(4, 0, 0, 0, 0), Check.BEYOND);
        c.is("40 to sheet -1", x.copy(0, 0, -1, 0, 0), Check.BEYOND);
        c.is("40 missing", x.copy(0, 0, 1, 0, 0), Check.MISSING);
        Check.row(x, 0, 8, 1, 2, 3, 4, 5, 6);
        c.is("40 one is missing", x.copy(0, -1, 1, 0, 0), Check.MISSING);
        c.is("40 the other one is", x.copy(1, -1, 0, 0, 0), Check.MISSING);
        x.sheet(1, 16, 6);
        c.is("40 bits ahead of places", x.copy(0, -1, 1, 0, 9), Check.KIND);
        x.sheet(1, 8, 4);
        c.is("40 from -1", x.copy(0, -1, 1, 0, 1), Check.BEYOND);
        c.is("40 to -1", x.copy(0, 0, 1, -1, 1), Check.BEYOND);
        c.is("40 n -1", x.copy(0, 0, 1, 0, -1), Check.BEYOND);
        c.is("40 from too far", x.copy(0, 4, 1, 0, 3), Check.BEYOND);
        c.is("40 to too far", x.copy(0, 0, 1, 2, 3), Check.BEYOND);
        c.is("40 none too far", x.copy(0, 7, 1, 0, 0), Check.BEYOND);
        c.is("40 far beyond", x.copy(0, 2147483647, 1, 0, 2147483647), Check.BEYOND);
        c.is("40 so far", x.copy(0, 1, 1, 0, 2147483647), Check.BEYOND);
        c.is("40 none at the end", x.copy(0, 6, 1, 4, 0), 0);
        c.is("40 three", x.copy(0, 2, 1, 1, 3), 3);
        x.write(1, 0, 9);
        same(c, x, 1, 9, 3, 4, 5);
        c.is("40 onto itself, up", x.copy(0, 0, 0, 1, 5), 5);
        same(c, x, 0, 1, 1, 2, 3, 4, 5);
        c.is("40 onto itself, down", x.copy(0, 2, 0, 0, 4), 4);
        same(c, x, 0, 2, 3, 4, 5, 4, 5);
    }

    private static void same(Check c, PunchByHeart x, int s, int... numbers) {
        c.is("40 load", x.load(s), numbers.length);
        for (int i = 0; i < numbers.length; i++) {
            c.is("40 number " + i, x.of(i, 1), numbers[i]);
        }
    }

    private static void load(Check c) {
        PunchByHeart x = Check.withDolls(0, 0, 0);
        c.is("41 sheet 4", x.load(4), Check.BEYOND);
        c.is("41 sheet -1", x.load(-1), Check.BEYOND);
        c.is("41 missing", x.load(0), Check.MISSING);
        x.sheet(0, 8, 0);
        c.is("41 empty", x.load(0), 0);
        Check.row(x, 0, 8, 1, 9, 10, 5);
        c.is("41 ends at 10", x.load(0), 2);
        c.is("41 first", x.of(0, 1), 1);
        c.is("41 second", x.of(1, 1), 9);
        c.is("41 third kept", x.of(2, 1), 3);
        x.write(0, 1, 0);
        c.is("41 ends at 0", x.load(0), 1);
        Check.row(x, 0, 32, 2, 4, 6, 8);
        c.is("41 ends behind the dolls", x.load(0), 3);
        c.is("46 sizes", x.count(4), 12);
    }

    private static void judge(Check c) {
        PunchByHeart x = Check.withDolls(Check.PUNCH, Check.JAWED, 0);
        c.is("42 sheet 4", x.judge(4), Check.BEYOND);
        c.is("42 sheet -1", x.judge(-1), Check.BEYOND);
        c.is("42 missing", x.judge(0), Check.MISSING);
        x.sheet(0, 8, 0);
        c.is("42 empty", x.judge(0), 0);
        x.sheet(0, 8, 1);
        c.is("42 for no beat", x.judge(0), 1);
        x.beat(0, -1);
        x.beat(3, 0);
        x.beat(4, 0);
        c.is("42 short", x.judge(0), 1);
        Check.row(x, 0, 8, -1, -1, 1, 0, 0, 2);
        c.is("42 all", x.judge(0), 0);
        Check.row(x, 0, 8, -1, -1, 1, 0);
        c.is("42 fewer than beats", x.judge(0), 0);
        Check.row(x, 0, 8, -1, -1, 1, 0, 2);
        c.is("42 the last is short", x.judge(0), 5);
        Check.row(x, 0, 8, -1, -1, 1, 0, 2, -1, -1, -1);
        c.is("42 for no beat", x.judge(0), 7);
        Check.row(x, 0, 8, -1, -1, 0, 1, 2);
        c.is("42 in the wrong hands", x.judge(0), 3);
        Check.row(x, 0, 8, 2, 2);
        c.is("42 one in both", x.judge(0), 1);
        Check.row(x, 0, 8, 3, -1);
        c.is("42 no such doll", x.judge(0), 1);
        Check.row(x, 0, 8, 1, -2);
        c.is("42 below nothing", x.judge(0), 1);
    }
}
