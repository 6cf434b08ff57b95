import java.util.NoSuchElementException;

/** Promises 7, 8, 10 to 18, 38, 39, 42 to 45: TRAINS, ACTS, HOURS, YEARS, the LOG, IMAGES. */
final class HoursTest {
    static void run(Due due) {
        trains(due);
        hours(due);
        meetings(due);
        fading(due);
        byHand(due);
        sentUnlit(due);
        strings(due);
        guards(due);
        undone(due);
        lastHour(due);
        years(due);
        logged(due);
        images(due);
    }

    private static int train(DarkLamps x, int train, int what) {
        try {
            return x.train(train, what);
        } catch (NoSuchElementException none) {
            return -77;
        }
    }

    private static void trains(Due due) {
        DarkLamps x = Due.net("nm3c2;ra1c1d4;rc5h2");
        int[][] want = {{1, 1, 4, 0}, {0, 5, 3, 0}};
        for (int t = 0; t < 2; t++) {
            for (int what = 0; what < 4; what++) {
                due.same("train(" + t + ", " + what + ")", train(x, t, what), want[t][what]);
            }
            due.same("no such what", train(x, t, 4), -77);
            due.same("no such what", train(x, t, -1), -77);
        }
        due.same("no such TRAIN", train(x, 2, 0), -77);
        due.same("no such TRAIN", train(x, -1, 0), -77);
        due.same("no TRAINS at all", train(new DarkLamps(), 0, 0), -77);
    }

    /* 0 goes to 1 by COLOUR 0 in 2 HOURS, 1 to 2 in 1; TRAIN 1 starts 1 HOUR later. */
    private static void hours(Due due) {
        DarkLamps x = Due.net("nm3c1h5;tb1l2;ta1b2;rd2;ra1h1d1;rd0");
        due.same("astray at first", x.astray(), 0);
        due.same("go", x.go(1), 6);
        due.same("in a DARK", x.astray(), 1);
        due.same("to which it went", train(x, 0, 0), 1);
        due.same("DARKS to go", train(x, 0, 2), 1);
        due.same("due", x.due(0), 1);
        due.same("due of one that waits", x.due(1), 0);
        due.same("go", x.go(1), 7);
        due.same("both", x.astray(), 3);
        due.same("due in this HOUR", x.due(0), 0);
        due.same("due in this HOUR", x.due(1), 0);
        due.same("go", x.go(1), 8);
        due.same("came OUT and went on", x.astray(), 1);
        due.same("it went on to", train(x, 0, 0), 2);
        due.same("LOG", x.count(12), 2);
        due.same("LOG who", x.log(1, 0), 0);
        due.same("LOG where", x.log(1, 1), 1);
        due.same("LOG when", x.log(1, 2), 7);
        due.same("LOG who", x.log(0, 0), 1);
        due.same("LOG where", x.log(0, 1), 2);
        due.same("go", x.go(9), 17);
        due.same("all at rest", x.astray(), 0);
        due.same("no DARKS to go", train(x, 0, 2), 0);
        due.same("LOG", x.count(12), 3);
        due.same("visits", x.visits(2), 2);
        due.same("visits", x.visits(1), 1);
        due.same("visits", x.visits(0), 0);
        due.same("visits of no MOUTH", x.visits(3), -1);
        due.same("due of no TRAIN", x.due(3), -1);
        due.same("due of no TRAIN", x.due(-1), -1);
        due.same("no MEETINGS", x.count(8), 0);
    }

    private static void meetings(Due due) {
        DarkLamps x = Due.net("nm2c1;tb1;ta1b0;rd9;rd9;rd9;ra1d9");
        x.go(1);
        due.same("none OUT yet", x.count(8), 0);
        x.go(1);
        due.same("three at one MOUTH are three pairs", x.count(8), 3);
        x.go(2);
        due.same("each HOUR anew", x.count(8), 9);
        due.same("LOG of one HOUR by numbers", x.log(3, 0), 0);
        due.same("LOG of one HOUR by numbers", x.log(0, 0), 3);
        due.same("LOG of one HOUR by numbers", x.log(0, 1), 0);
    }

    /* COLOUR 2 leads on by 1, 2, 3; COLOUR 1 and 0 back to 0; a step down each 2 HOURS. */
    private static void fading(Due due) {
        DarkLamps x = Due.net("nm4c3f2;tc2b1;ta1c2b2;ta2c1b0;rc2d9;rc2h3d9;rc5d1");
        due.same("LAMP", train(x, 0, 1), 2);
        x.go(1);
        due.same("LAMP behind 1", train(x, 0, 1), 2);
        x.go(1);
        due.same("LAMP behind 2", train(x, 0, 1), 1);
        due.same("went by 2 and 2", train(x, 0, 0), 2);
        x.go(1);
        due.same("went by 1", train(x, 0, 0), 0);
        due.same("LAMP of one not started", train(x, 1, 1), 2);
        x.go(1);
        due.same("LAMP behind 4", train(x, 0, 1), 0);
        due.same("LAMP of one just started", train(x, 1, 1), 2);
        x.go(2);
        due.same("LAMP behind 6: UNLIT", train(x, 0, 1), 5);
        due.same("UNLIT at first", train(x, 2, 1), 5);
        x.go(3);
        due.same("UNLIT goes to itself", train(x, 0, 0), 0);
        due.same("all DARKS gone", train(x, 0, 2), 0);
        DarkLamps y = Due.net("nm2c1;rd9");
        y.go(50);
        due.same("f 0: never", train(y, 0, 1), 0);
    }

    private static void byHand(Due due) {
        DarkLamps x = Due.net("nm3c2f3;tb1l3;rc1h9d1;rc1d1");
        due.same("sent", x.sent(0, 0, 9), 2);
        due.same("sent to no MOUTH", x.sent(3, 0, 1), -1);
        due.same("sent to no MOUTH", x.sent(-1, 0, 1), -1);
        due.same("sent by no COLOUR", x.sent(0, 2, 1), -1);
        due.same("sent by no COLOUR", x.sent(0, -1, 1), -1);
        due.same("sent by no COLOUR", x.sent(0, 6, 1), -1);
        due.same("sent out of bounds", x.sent(0, 0, 10), -1);
        due.same("sent out of bounds", x.sent(0, 0, -1), -1);
        due.same("refused are no ACTS", x.count(13), 1);
        x.go(1);
        due.same("it starts now", x.astray(), 6);
        due.same("lamp in a DARK", x.lamp(2, 0), -1);
        due.same("lamp of no TRAIN", x.lamp(3, 0), -1);
        due.same("lamp of no TRAIN", x.lamp(-1, 0), -1);
        due.same("lamp of no COLOUR", x.lamp(0, 2), -1);
        due.same("lamp of no COLOUR", x.lamp(0, 6), -1);
        due.same("a new LAMP", x.lamp(0, 0), 1);
        due.same("a new LAMP", train(x, 0, 1), 0);
        x.go(2);
        due.same("it fades from when it came", train(x, 0, 1), 0);
        x.go(1);
        due.same("it fades though not started", train(x, 0, 1), 5);
        due.same("UNLIT it was", x.lamp(0, 5), 5);
        due.same("the faded LAMP it had", x.lamp(1, 1), 0);
        due.same("UNLIT is it", train(x, 0, 1), 5);
        for (int number = 3; number < 8; number++) {
            due.same("sent", x.sent(1, 1, 0), number);
        }
        due.same("a ninth", x.sent(1, 1, 0), -1);
        due.same("TRAINS", x.count(2), 8);
    }

    private static void sentUnlit(Due due) {
        DarkLamps x = Due.net("nm3c2f1;tb1l3;tc1b2l2");
        due.same("sent UNLIT", x.sent(0, 5, 2), 0);
        due.same("sent UNLIT is an ACT", x.count(13), 1);
        due.same("sent UNLIT: its LAMP", train(x, 0, 1), 5);
        due.same("sent UNLIT: due", x.go(1) == 1 && x.due(0) == 0, true);
        x.go(2);
        due.same("sent UNLIT goes to itself", train(x, 0, 0), 0);
        due.same("sent UNLIT takes 1 HOUR", x.log(0, 2), 2);
        due.same("sent UNLIT stays so", train(x, 0, 1), 5);
        due.same("sent UNLIT: all DARKS gone", train(x, 0, 2), 0);
        due.same("sent UNLIT gets a LAMP", x.lamp(0, 0), 5);
        due.same("sent UNLIT, of no NET", new DarkLamps().sent(0, 5, 0), -1);
        for (int left = 4; left >= 0; left--) {
            due.same("sent UNLIT, undone", x.undo(), left);
        }
        due.same("sent UNLIT, gone", x.count(2), 0);
    }

    private static void strings(Due due) {
        DarkLamps x = Due.net("nm3c2;tb1l3;ta1b8l4;ra1d1");
        due.same("shown", x.show(0, 0, 2), 1);
        due.same("leads there now", x.dark(0, 0, 0), 2);
        due.same("LENGTH as told", x.dark(0, 0, 1), 3);
        due.same("known", x.show(0, 0, 2), -1);
        due.same("without a TUNNEL", x.show(2, 1, 0), 2);
        due.same("without a TUNNEL: LENGTH", x.dark(2, 1, 1), 1);
        due.same("without a TUNNEL, to itself", x.show(0, 1, 0), -1);
        due.same("unknown", x.count(10), 1);
        x.go(1);
        due.same("not known: to itself", train(x, 0, 0), 1);
        due.same("not known, to itself", x.show(1, 0, 1), -1000000);
        due.same("known now", x.dark(1, 0, 0), 1);
        due.same("LENGTH as told", x.dark(1, 0, 1), 4);
        due.same("none unknown", x.count(10), 0);
        due.same("UNLIT", x.show(0, 5, 1), -1);
        due.same("no such COLOUR", x.show(0, 2, 1), -1);
        due.same("no such MOUTH", x.show(3, 0, 1), -1);
        due.same("no such MOUTH", x.show(0, 0, 3), -1);
        due.same("ACTS", x.count(13), 4);
    }

    private static void guards(Due due) {
        DarkLamps x = Due.net("nm2;ga1;ga1");
        due.same("GUARDS", x.guards(1), 2);
        due.same("GUARDS", x.guards(0), 0);
        due.same("GUARDS of no MOUTH", x.guards(2), -1);
        due.same("GUARDS of no MOUTH", x.guards(-1), -1);
        due.same("none to go", x.guard(0, false), -1);
        due.same("no MOUTH", x.guard(2, true), -1);
        for (int many = 3; many <= 9; many++) {
            due.same("comes", x.guard(1, true), many);
        }
        due.same("a tenth", x.guard(1, true), -1);
        due.same("another MOUTH", x.guard(0, true), 1);
        due.same("in all", x.count(3), 10);
        due.same("goes", x.guard(1, false), 8);
        due.same("ACTS", x.count(13), 9);
    }

    private static void undone(Due due) {
        DarkLamps x = Due.net("nm3c2;tb1;tc1b8;rd9;rd9");
        due.same("none", x.undo(), -1);
        x.go(3);
        x.sent(2, 0, 1);
        x.guard(2, true);
        x.show(0, 1, 2);
        x.lamp(2, 1);
        due.same("ACTS", x.count(13), 7);
        due.same("undo lamp", x.undo(), 6);
        due.same("undone", train(x, 2, 1), 0);
        due.same("undo show", x.undo(), 5);
        due.same("undone", x.dark(0, 1, 0), -1000000);
        due.same("undo guard", x.undo(), 4);
        due.same("undone", x.guards(2), 0);
        due.same("undo sent", x.undo(), 3);
        due.same("undone", x.count(2), 2);
        due.same("MEETINGS so far", x.count(8), 2);
        due.same("undo an HOUR", x.undo(), 2);
        due.same("undone HOUR", x.count(7), 2);
        due.same("undone MEETINGS", x.count(8), 1);
        due.same("undone LOG", x.count(12), 2);
        due.same("undone train", train(x, 0, 2), 7);
        due.same("undo", x.undo(), 1);
        due.same("undo", x.undo(), 0);
        due.same("undo", x.undo(), -1);
        due.same("as at first", x.astray(), 0);
        x.go(100);
        due.same("the latest 40", x.count(13), 40);
        for (int left = 39; left >= 0; left--) {
            due.same("undo", x.undo(), left);
        }
        due.same("no more", x.undo(), -1);
        due.same("the HOUR", x.count(7), 60);
        x.fogs(3);
        x.lay(0, 0, 1, 1);
        due.same("no ACTS", x.undo(), -1);
    }

    private static void lastHour(Due due) {
        DarkLamps x = Due.net("nh23");
        due.same("go(0)", x.go(0), -1);
        due.same("go(201)", x.go(201), -1);
        due.same("years(0)", x.years(0, 1), -1);
        due.same("years(201)", x.years(201, 1), -1);
        for (int i = 1; i <= 49; i++) {
            due.same("go(200)", x.go(200), 23 + 200 * i);
        }
        due.same("above 9,999", x.go(177), -1);
        due.same("above 9,999", x.years(177, 3), -1);
        due.same("nothing changed", x.count(7), 9823);
        due.same("up to 9,999", x.years(176, 3), 9999);
        due.same("none goes by", x.go(1), -1);
        due.same("none goes by", x.years(1, 1), -1);
        due.same("undo", x.undo(), 39);
        due.same("one goes by", x.go(1), 9999);
    }

    private static long next(long x) {
        return x * 6364136223846793005L + 1442695040888963407L;
    }

    private static void years(Due due) {
        DarkLamps x = Due.net("nm7c1h6;tb1;ta1b0;rd9;rd9");
        due.same("fogs", x.fogs(0), false);
        due.same("fogs", x.fogs(-1), false);
        due.same("fogs", x.fogs(100), false);
        due.same("fogs", x.fogs(50), true);
        due.same("fogs", x.fogs(50), false);
        due.same("FOGS", x.count(9), 50);
        for (long seed = 1; seed < 20; seed++) {
            DarkLamps y = Due.net("nm7c1h6;tb1;rd9;rd9");
            y.fogs(50);
            long draw = next(seed);
            boolean fog = (draw >>> 33) % 100 < 50;
            y.years(1, seed);
            due.same("FOG by seed " + seed, y.astray(), fog ? 0 : 3);
            due.same("an ACT", y.undo(), 0);
            y.years(1, -seed);
            due.same("FOG by seed -" + seed, y.astray(), (next(-seed) >>> 33) % 100 < 50 ? 0 : 3);
        }
        DarkLamps y = Due.net("nm7c1h4;tb1l2;ra2h1d1;rd2;rd2");
        y.go(2);
        due.same("a dawn", y.years(1, 99), 7);
        long second = next(next(99));
        long third = next(second);
        long fourth = next(third);
        due.same("dawn: where", y.log(2, 1), (second >>> 33) % 7);
        due.same("dawn: where", y.log(1, 1), (third >>> 33) % 7);
        due.same("dawn: where", y.log(0, 1), (fourth >>> 33) % 7);
        due.same("dawn: TRAIN 0 is there", train(y, 0, 0), (second >>> 33) % 7);
        DarkLamps n = Due.net("nm7c1h5;tb1;ra6h24d1;ra6h25d1");
        n.go(25);
        long drawn = next(next(5));
        n.years(1, 5);
        due.same("a dawn of the next day", n.log(0, 1), (drawn >>> 33) % 7);
        n.years(1, 5);
        due.same("no dawn behind it", n.log(0, 1), 6);
        DarkLamps z = Due.net("nm7c1h5;tb1;rd9");
        z.go(2);
        due.same("no dawn by hand", z.log(0, 1), 1);
        DarkLamps f = Due.net("nm3c1;tb1l2;rd3");
        f.fogs(99);
        f.go(1);
        due.same("no FOG by hand", f.astray(), 1);
    }

    private static void logged(Due due) {
        DarkLamps x = Due.net("nm2c1;tb1;ta1b0");
        due.same("LOG of none", x.log(0, 0), -1);
        for (int i = 0; i < 8; i++) {
            x.sent(0, 0, 9);
        }
        x.go(8);
        due.same("LOG is 56 long", x.count(12), 56);
        x.go(1);
        due.same("LOG is 60 long", x.count(12), 60);
        due.same("the latest", x.log(0, 0), 7);
        due.same("the latest", x.log(0, 2), 8);
        due.same("the oldest", x.log(59, 0), 4);
        due.same("the oldest", x.log(59, 2), 1);
        due.same("the oldest", x.log(59, 1), 1);
        due.same("none older", x.log(60, 0), -1);
        due.same("none younger", x.log(-1, 0), -1);
        due.same("no such what", x.log(0, 3), -1);
        due.same("no such what", x.log(0, -1), -1);
        due.same("visits by the LOG", x.visits(0) + x.visits(1), 60);
        due.same("visits by the LOG", x.visits(1), 28);
        x.undo();
        due.same("LOG undone", x.count(12), 56);
        due.same("LOG undone", x.log(55, 2), 1);
        due.same("LOG undone", x.log(55, 0), 0);
    }

    private static void images(Due due) {
        DarkLamps x = Due.net("nm3c2h3;tb1l2;tc1b8;rd9;ga1");
        due.same("no IMAGE", x.back(), -1);
        x.go(3);
        due.same("image", x.image(), 6);
        x.lay(0, 0, 1, 1);
        x.go(2);
        x.sent(0, 0, 2);
        x.show(0, 1, 2);
        x.guard(1, false);
        x.fogs(4);
        due.same("back", x.back(), 6);
        due.same("TRAINS", x.count(2), 1);
        due.same("in a DARK", x.astray(), 1);
        due.same("DARKS", x.dark(0, 1, 0), -1000000);
        due.same("GUARDS", x.guards(1), 1);
        due.same("HOUR", x.count(7), 6);
        due.same("LOG", x.count(12), 1);
        due.same("FOGS stay", x.count(9), 4);
        due.same("STRINGS LAID stay", x.count(11), 1);
        due.same("no ACT", x.count(13), 0);
        due.same("no ACT", x.undo(), -1);
        x.go(5);
        due.same("instead of the one ahead", x.image(), 11);
        due.same("an IMAGE is no ACT", x.undo(), 4);
        due.same("back", x.back(), 11);
        due.same("back again", x.back(), 11);
    }
}
