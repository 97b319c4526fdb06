/** Promises 43 to 47: images, counts, findings. */
public final class ImagesTest {
    public static void main(String[] args) {
        Check check = new Check("ImagesTest");
        undo(check);
        stays(check);
        tear(check);
        count(check);
        status(check);
        check.end();
    }

    private static PunchByHeart made() {
        PunchByHeart x = Check.withDolls(0, Check.DOG, Check.PUNCH);
        x.change(0, 1, 7);
        x.hooks(0, 2);
        x.leaves(10);
        x.beat(1, 0);
        x.beat(2, -1);
        x.puts(0, 2);
        x.plays();
        x.hold(4, 1);
        x.seed(99);
        return x;
    }

    private static void spoil(PunchByHeart x) {
        x.change(0, 0, Check.BEADLE);
        x.change(0, 1, 1);
        x.hooks(1, 2);
        x.leaves(1);
        x.tell(0, 0, 4);
        x.tell(0, 1, 2);
        x.cut(1);
        x.change(2, 0, Check.DOG);
        x.leaves(10);
        x.plays();
        x.leaves(1);
        x.puts(0, 0);
        x.puts(1, -1);
        x.hold(4, -1);
        x.hold(5, 0);
        x.seed(7);
        x.doll(0);
        x.beat(8, 3);
    }

    private static void same(Check c, PunchByHeart x, PunchByHeart y) {
        for (int what = 0; what <= 7; what++) {
            if (what != 5) {
                c.is("44 count " + what, x.count(what), y.count(what));
            }
        }
        for (int what = 0; what <= 4; what++) {
            c.is("44 now " + what, x.now(what), y.now(what));
        }
        for (int d = 0; d < 4; d++) {
            for (int what = 0; what <= 5; what++) {
                c.is("44 doll " + d + " " + what, x.of(d, what), y.of(d, what));
            }
        }
        for (int k = 0; k < 3; k++) {
            c.is("44 cast " + k, x.told(k, 0), y.told(k, 0));
            c.is("44 speaks " + k, x.told(k, 1), y.told(k, 1));
        }
        for (int spot = 0; spot < 10; spot++) {
            c.is("44 spot " + spot, x.as(spot, 0), y.as(spot, 0));
        }
        c.is("44 left", x.hand(0), y.hand(0));
        c.is("44 right", x.hand(1), y.hand(1));
        c.is("44 ahead", x.ahead(20), y.ahead(20));
    }

    private static void undo(Check c) {
        PunchByHeart x = made();
        c.is("44 none", x.undo(), Check.NONE);
        c.is("43 image", x.image(), 1);
        spoil(x);
        c.is("44 undo", x.undo(), 2);
        same(c, x, made());
        spoil(x);
        c.is("44 it stays", x.undo(), 2);
        same(c, x, made());
        spoil(x);
        c.is("43 the latest", x.image(), 1);
        x.cut(0);
        c.is("44 the latest", x.undo(), 2);
        PunchByHeart y = made();
        spoil(y);
        same(c, x, y);
    }

    private static void stays(Check c) {
        PunchByHeart x = Check.withDolls(0);
        Check.row(x, 0, 8, 1);
        Check.feed(x, "dol");
        x.image();
        Check.feed(x, "l");
        x.write(0, 0, 9);
        x.sheet(1, 8, 1);
        x.doll(7);
        int findings = x.status(-1);
        x.undo();
        c.is("44 the tape is as it was", x.count(5), 4);
        c.is("44 and sheets", x.load(0), 1);
        c.is("44 and their numbers", x.of(0, 1), 9);
        c.is("44 and those that came", x.load(1), 0);
        c.is("47 and findings", x.status(-1), findings);
        c.is("35 the tape then", x.text(), 1);
    }

    private static void tear(Check c) {
        PunchByHeart x = new PunchByHeart();
        c.is("45 nothing", x.tear(), 0);
        x.image();
        x.undo();
        c.is("45 something", x.tear(), 1);
        c.is("45 nothing then", x.tear(), 0);
        c.is("44 nothing is kept", x.undo(), Check.NONE);
    }

    private static void count(Check c) {
        PunchByHeart x = made();
        Check.feed(x, "abc");
        c.is("46 beats", x.count(0), 2);
        c.is("46 dolls", x.count(1), 3);
        c.is("46 changes", x.count(2), x.now(0));
        c.is("46 changes ever", x.count(2), 3);
        c.is("46 played", x.count(3), 2);
        c.is("46 sizes", x.count(4), 13);
        c.is("46 bytes", x.count(5), 3);
        c.is("46 z", x.count(6), 99);
        c.is("46 spots", x.count(7), 1);
        c.is("46 what 8", x.count(8), Check.BEYOND);
        c.is("46 what -1", x.count(-1), Check.BEYOND);
    }

    private static void status(Check c) {
        PunchByHeart x = new PunchByHeart();
        for (int which = -1; which <= 6; which++) {
            c.is("47 at first " + which, x.status(which), 0);
        }
        c.is("47 another", x.status(7), Check.BEYOND);
        c.is("47 counted from then on", x.status(0), 1);
        c.is("47 below", x.status(-2), Check.BEYOND);
        c.is("47 counted", x.status(0), 2);
        for (int i = 0; i < 9; i++) {
            x.doll(0);
        }
        x.hold(0, 0);
        x.as(0, 1);
        x.as(0, 2);
        x.dear();
        x.undo();
        x.undo();
        x.plays();
        x.puts(0, 0);
        x.puts(1, 0);
        x.load(0);
        x.sheet(0, 8, -1);
        x.stays(2);
        int[] due = {3, 1, 2, 3, 2, 1, 1};
        int all = 0;
        for (int which = 0; which <= 6; which++) {
            c.is("47 " + which, x.status(which), due[which]);
            all += due[which];
        }
        c.is("47 all", x.status(-1), all);
    }
}
