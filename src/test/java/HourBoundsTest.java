import java.util.ArrayList;
import java.util.List;

/** Terms 2 and 4: starts, DARKS to go, LENGTHS, fading, MEETINGS, the LOG, ACTS, draws, dawns, IMAGES, each at its edge. */
final class HourBoundsTest {
    static void run(Due due) {
        fades(due);
        fadesAnew(due);
        starts(due);
        darksToGo(due);
        lengths(due);
        changedInside(due);
        meetings(due);
        logOfSixty(due);
        logUndone(due);
        latestForty(due);
        eachAct(due);
        lastHour(due);
        fullTrains(due);
        guards(due);
        shown(due);
        draws(due);
        goesRound(due);
        dawns(due);
        fogAtDawn(due);
        image(due);
        imageKeepsAll(due);
    }

    private static int train(DarkLamps x, int train, int what) {
        return Answers.train(x, train, what);
    }

    /* ---- LAMPS ---- */

    /** A TRAIN with no DARKS to go: COLOUR 4 becomes 3 behind f HOURS, .. UNLIT behind 5 f, and stays so. */
    private static void fades(Due due) {
        for (int f = 0; f <= 9; f++) {
            DarkLamps x = Due.net("nc5h7f" + f + ";rc4d0;rc0d0;rc5d0;rc2d0h3");
            for (int age = 0; age <= 50; age++) {
                String what = "f " + f + ", behind " + age + ": ";
                due.same(what + "4", train(x, 0, 1), lamp(4, f, age));
                due.same(what + "0", train(x, 1, 1), lamp(0, f, age));
                due.same(what + "UNLIT", train(x, 2, 1), 5);
                due.same(what + "started later", train(x, 3, 1), lamp(2, f, Math.max(0, age - 3)));
                x.go(1);
            }
        }
        DarkLamps y = Due.net("nf0;rd0c2");
        y.go(200);
        due.same("f 0: never", train(y, 0, 1), 2);
        DarkLamps z = Due.net("nf9;rd0c2");
        z.go(26);
        due.same("f 9, behind 26", train(z, 0, 1), 0);
        z.go(1);
        due.same("f 9, behind 27", train(z, 0, 1), 5);
        z.go(200);
        due.same("f 9, behind 227", train(z, 0, 1), 5);
    }

    private static int lamp(int colour, int f, int age) {
        int left = colour;
        for (int h = f; f > 0 && h <= age; h += f) {
            left--;
        }
        return left < 0 ? 5 : left;
    }

    private static void fadesAnew(Due due) {
        DarkLamps x = Due.net("nc3f4;rc2d0;rc2d0h9");
        x.go(3);
        due.same("a LAMP", x.lamp(0, 2), 2);
        due.same("a LAMP of one not started", x.lamp(1, 2), 2);
        x.go(3);
        due.same("3 behind a LAMP", train(x, 0, 1), 2);
        due.same("3 behind a LAMP, not started", train(x, 1, 1), 2);
        x.go(1);
        due.same("4 behind a LAMP", train(x, 0, 1), 1);
        due.same("4 behind a LAMP, not started", train(x, 1, 1), 1);
        x.go(8);
        due.same("12 behind a LAMP", train(x, 0, 1), 5);
        due.same("what it had: UNLIT", x.lamp(0, 0), 5);
        due.same("what it had: the same", x.lamp(0, 0), 0);
        due.same("the same LAMP is an ACT", x.count(13), 19);
        due.same("UNLIT by hand", x.lamp(0, 5), 0);
        x.go(40);
        due.same("UNLIT stays", train(x, 0, 1), 5);
        DarkLamps y = Due.net("nm3c2f1;tc1b2l3;rc1d1h2");
        y.lamp(0, 1);
        y.go(2);
        due.same("faded ahead of its start", train(y, 0, 1), 5);
        y.go(1);
        due.same("goes in by the LAMP it has", train(y, 0, 0), 0);
    }

    /* ---- an HOUR ---- */

    private static void starts(Due due) {
        for (int h : new int[] {0, 1, 9, 10, 98, 99}) {
            DarkLamps x = Due.net("nh23;tb1l2;rd1h" + h);
            if (h > 0) {
                x.go(h);
            }
            due.same("start " + h + ": not ahead", x.astray(), 0);
            due.same("start " + h + ": due", x.due(0), 0);
            x.go(1);
            due.same("start " + h + ": in", x.astray(), 1);
            due.same("start " + h + ": due", x.due(0), 1);
        }
        DarkLamps y = Due.net("tb1;rd1h5");
        y.go(3);
        y.sent(0, 0, 1);
        y.go(1);
        due.same("sent starts now", y.astray(), 2);
    }

    private static void darksToGo(Due due) {
        for (int d = 0; d <= 9; d++) {
            DarkLamps x = Due.net("tb1;ta1b2;ta2b3;ta3b0;rd" + d);
            x.sent(0, 0, d);
            for (int h = 0; h <= 11; h++) {
                int in = Math.min(h, d);
                due.same("d " + d + ", HOUR " + h + ": to go", train(x, 0, 2), d - in);
                due.same("d " + d + ", HOUR " + h + ": in a DARK", x.astray(), h >= 1 && h <= d ? 3 : 0);
                due.same("d " + d + ", HOUR " + h + ": to go, sent", train(x, 1, 2), d - in);
                due.same("d " + d + ", HOUR " + h + ": where", train(x, 0, 0), in % 4);
                x.go(1);
            }
            due.same("d " + d + ": came OUT", x.count(12), 2 * d);
        }
    }

    private static void lengths(Due due) {
        for (int l = 1; l <= 9; l++) {
            DarkLamps x = Due.net("tb1l" + l + ";rd1");
            x.go(1);
            for (int left = l - 1; left >= 0; left--) {
                due.same("l " + l + ": due", x.due(0), left);
                due.same("l " + l + ": in a DARK", train(x, 0, 3), 1);
                due.same("l " + l + ": not in the LOG", x.count(12), 0);
                x.go(1);
            }
            due.same("l " + l + ": OUT", train(x, 0, 3), 0);
            due.same("l " + l + ": OUT in that HOUR", x.log(0, 2), l);
        }
        DarkLamps y = Due.net("nm2c2;tb8l9;ra0;rc1;rc5");
        y.go(2);
        due.same("not known, no TUNNEL, UNLIT: 1 HOUR", y.count(12), 3);
        due.same("not known, no TUNNEL, UNLIT: to itself", y.visits(0), 3);
    }

    /** One in a DARK comes OUT where and when it went to, whatever is shown then. */
    private static void changedInside(Due due) {
        DarkLamps x = Due.net("tb1l3;rd2");
        x.go(1);
        x.show(0, 0, 2);
        x.go(3);
        due.same("where it went", x.log(0, 1), 1);
        due.same("when it was due", x.log(0, 2), 3);
    }

    private static void meetings(Due due) {
        for (int many = 0; many <= 8; many++) {
            DarkLamps x = Due.net("nm2;tb1");
            for (int i = 0; i < many; i++) {
                x.sent(0, 0, 1);
            }
            x.go(2);
            due.same("MEETINGS of " + many, x.count(8), many * (many - 1) / 2);
            x.go(5);
            due.same("MEETINGS of " + many + ", no more", x.count(8), many * (many - 1) / 2);
        }
        DarkLamps y = Due.net("nm4c2;tb1;tc1b2l2;ta3b1;rd1;rc1d1;ra3h1d1;ra3d1");
        y.go(2);
        due.same("by COLOURS and ways", y.count(8), 1);
        y.go(1);
        due.same("one MOUTH in other HOURS, other MOUTHS in one HOUR", y.count(8), 1);
    }

    /* ---- the LOG ---- */

    /** 7 TRAINS come OUT 60 times in all; then one more. */
    private static void logOfSixty(Due due) {
        DarkLamps x = Due.net("nm2;tb1;ta1b0;rd9;rd9;rd9;rd9;rd9;rd9");
        x.sent(0, 0, 6);
        x.go(7);
        due.same("LOG of 42", x.count(12), 42);
        x.go(1);
        due.same("LOG of 48", x.count(12), 48);
        x.go(2);
        due.same("LOG of 60", x.count(12), 60);
        due.same("LOG of 60: the oldest", x.log(59, 0) * 100 + x.log(59, 1) * 10 + x.log(59, 2), 11);
        due.same("LOG of 60: none older", x.log(60, 0), -1);
        due.same("LOG of 60: visits", x.visits(1) * 100 + x.visits(0), 33 * 100 + 27);
        x.sent(0, 0, 1);
        x.go(1);
        due.same("one more is in a DARK", x.count(12), 60);
        x.go(1);
        due.same("LOG of 61", x.count(12), 60);
        due.same("LOG of 61: the oldest", x.log(59, 0) * 100 + x.log(59, 1) * 10 + x.log(59, 2), 111);
        due.same("LOG of 61: the latest", x.log(0, 0) * 1000 + x.log(0, 1) * 100 + x.log(0, 2), 7111);
        due.same("LOG of 61: none older", x.log(60, 2), -1);
        due.same("LOG of 61: visits", x.visits(1) * 100 + x.visits(0), 33 * 100 + 27);
        x.undo();
        due.same("undone: the oldest is there again", x.log(59, 0) * 100 + x.log(59, 1) * 10 + x.log(59, 2), 11);
        due.same("undone: the latest", x.log(0, 0), 5);
        due.same("undone: as long", x.count(12), 60);
    }

    private static void logUndone(Due due) {
        DarkLamps x = Due.net("nm3;tb1;ta1b2;rd2;rd2");
        x.go(2);
        due.same("LOG", x.count(12) * 10 + x.log(0, 1), 21);
        x.undo();
        due.same("LOG undone", x.count(12), 0);
        due.same("LOG undone", x.log(0, 0), -1);
        due.same("LOG undone: visits", x.visits(1), 0);
        x.go(2);
        due.same("LOG again", x.count(12), 4);
        due.same("LOG again", x.log(0, 2) * 10 + x.log(3, 2), 21);
    }

    /* ---- ACTS ---- */

    private static void latestForty(Due due) {
        for (int many : new int[] {1, 39, 40, 41, 42, 80, 81, 120}) {
            DarkLamps x = Due.net("nh3");
            int hour = 3;
            x.sent(0, 0, 0);
            for (int i = 1; i < many; i++) {
                hour = x.go(1);
            }
            int kept = Math.min(40, many);
            due.same(many + " ACTS", x.count(13), kept);
            for (int left = kept - 1; left >= 0; left--) {
                due.same(many + " ACTS, undo", x.undo(), left);
                hour -= left > 0 || many > 40 ? 1 : 0;
                due.same(many + " ACTS, undone HOUR", x.count(7), hour);
            }
            due.same(many + " ACTS, no more", x.undo(), -1);
            due.same(many + " ACTS, still no more", x.undo(), -1);
            due.same(many + " ACTS, the first", x.count(2), many > 40 ? 1 : 0);
        }
        DarkLamps y = Due.net("n");
        y.go(30);
        for (int i = 0; i < 20; i++) {
            y.undo();
        }
        y.go(35);
        due.same("ACTS anew behind UNDONE ones", y.count(13), 40);
        for (int left = 39; left >= 0; left--) {
            due.same("ACTS anew, undo", y.undo() * 100 + y.count(7), left * 100 + 5 + left);
        }
        DarkLamps z = Due.net("n");
        z.years(200, 3);
        due.same("each HOUR of YEARS", z.count(13), 40);
        for (int i = 0; i < 40; i++) {
            z.undo();
        }
        due.same("each HOUR of YEARS", z.count(7), 160);
    }

    /** Each kind of ACT is one, brings its own back, and all else is none. */
    private static void eachAct(Due due) {
        DarkLamps x = Due.net("nm3c2f2;tb1l2;tc1b8;rc1d3;ga1");
        x.go(1);
        x.lay(0, 0, 1, 1);
        x.fogs(9);
        x.image();
        Due.rule(x, "y:1");
        x.law(-1);
        due.same("LAWS, FOGS, IMAGES, STRINGS LAID are none", x.count(13), 1);
        x.sent(2, 5, 9);
        x.lamp(1, 1);
        x.show(0, 1, 2);
        x.guard(1, false);
        x.guard(2, true);
        x.years(2, 7);
        due.same("ACTS", x.count(13), 8);
        due.same("an HOUR of YEARS", x.undo() * 10 + x.count(7), 72);
        due.same("an HOUR of YEARS", x.undo() * 10 + x.count(7), 61);
        due.same("a GUARD that came", x.undo() * 10 + x.guards(2), 50);
        due.same("a GUARD that went", x.undo() * 10 + x.guards(1), 41);
        due.same("a STRING", x.undo() * 10 + x.count(10), 31);
        due.same("a LAMP", x.undo() * 10 + train(x, 1, 1), 25);
        due.same("a TRAIN", x.undo() * 10 + x.count(2), 11);
        due.same("an HOUR", x.undo() * 10 + x.count(7), 0);
        due.same("none", x.undo(), -1);
        due.same("not UNDONE", x.count(11) * 1000 + x.count(9) * 10 + x.count(4), 1091);
        due.same("the IMAGE stays", x.back(), 1);
    }

    private static void lastHour(Due due) {
        DarkLamps x = Due.net("nh23;tb1l9;rh99d1;rd0");
        int hour = 23;
        while (hour < 9800) {
            hour = x.go(Math.min(200, 9800 - hour));
        }
        due.same("go(200) at 9,800", x.go(200), -1);
        due.same("go(199) at 9,800", x.go(199), 9999);
        due.same("go(1) at 9,999", x.go(1), -1);
        due.same("years(1) at 9,999", x.years(1, 0), -1);
        due.same("the HOUR", x.count(7), 9999);
        due.same("undo at 9,999", x.undo(), 39);
        due.same("sent at 9,998", x.sent(0, 0, 1), 2);
        due.same("years(1) at 9,998", x.years(1, 0), 9999);
        due.same("in a DARK for ever", x.due(2), 8);
        due.same("sent at 9,999", x.sent(0, 0, 1), 3);
        due.same("a GUARD at 9,999", x.guard(0, true), 1);
        due.same("image at 9,999", x.image(), 9999);
        due.same("undo at 9,999", x.undo() == 39 && x.undo() == 38 && x.undo() == 37, true);
        due.same("back at 9,998", x.count(7) == 9998 && x.back() == 9999, true);
    }

    /* ---- by hand ---- */

    private static void fullTrains(Due due) {
        DarkLamps x = Due.net("nm2c2;tb1;r;r;r;r;r;r");
        due.same("a seventh TRAIN", x.sent(1, 1, 0), 6);
        due.same("an eighth TRAIN", x.sent(1, 5, 9), 7);
        due.same("a ninth TRAIN", x.sent(1, 1, 1), -1);
        due.same("TRAIN 7", train(x, 7, 0) * 100 + train(x, 7, 1) * 10 + train(x, 7, 2), 159);
        due.same("TRAIN 8", train(x, 8, 0), Answers.THROWN);
        x.go(1);
        due.same("all but the sixth are in a DARK", x.astray(), 255 - 64);
        x.undo();
        x.undo();
        due.same("an eighth TRAIN again", x.sent(0, 0, 3), 7);
        due.same("TRAIN 7 anew", train(x, 7, 0) * 100 + train(x, 7, 1) * 10 + train(x, 7, 2), 3);
        due.same("TRAIN 7 anew is at a MOUTH", train(x, 7, 3), 0);
    }

    private static void guards(Due due) {
        DarkLamps x = Due.net("nm3;ga1;ga1;ga1;ga1");
        due.same("four as told", x.guards(1), 4);
        for (int many = 5; many <= 9; many++) {
            due.same("a GUARD comes", x.guard(1, true), many);
        }
        due.same("a tenth", x.guard(1, true), -1);
        due.same("nine stay", x.guards(1), 9);
        due.same("nine at another one", x.guard(2, true) == 1 && x.guard(0, true) == 1 && x.count(3) == 11, true);
        for (int many = 8; many >= 0; many--) {
            due.same("a GUARD goes", x.guard(1, false), many);
        }
        due.same("none to go", x.guard(1, false), -1);
        due.same("none stays", x.guards(1), 0);
        Due.rule(x, "y:g*11");
        for (int many = 1; many <= 9; many++) {
            x.guard(1, true);
            due.same("PRICE by GUARDS", x.dark(1, 0, 2), many * 11);
        }
    }

    private static void shown(Due due) {
        DarkLamps x = Due.net("nm3c2;tb1l9;tc1b8l8;ta1b1l7");
        due.same("to itself as told", x.show(1, 0, 1), -1);
        due.same("elsewhere", x.show(1, 0, 0), 1);
        due.same("elsewhere, LENGTH as told", x.dark(1, 0, 1), 7);
        due.same("back again", x.show(1, 0, 1), 0);
        due.same("not known", x.show(0, 1, 0), -1000000);
        due.same("not known, LENGTH as told", x.dark(0, 1, 1), 8);
        due.same("known now", x.show(0, 1, 0), -1);
        due.same("to another one", x.show(0, 1, 2), 0);
        due.same("without a TUNNEL to itself", x.show(2, 0, 2), -1);
        due.same("without a TUNNEL", x.show(2, 0, 1), 2);
        due.same("without a TUNNEL, LENGTH 1", x.dark(2, 0, 1), 1);
        due.same("UNLIT", x.show(0, 5, 1), -1);
        due.same("ACTS", x.count(13), 5);
        for (int left = 4; left >= 0; left--) {
            due.same("undo", x.undo(), left);
        }
        due.same("not known again", x.dark(0, 1, 0), -1000000);
        due.same("not known again, 1 HOUR", x.dark(0, 1, 1), 1);
        due.same("not known again, count", x.count(10), 1);
    }

    /* ---- draws ---- */

    private static long next(long x) {
        return x * 6364136223846793005L + 1442695040888963407L;
    }

    private static int draw(long x, int k) {
        return (int) ((x >>> 33) % k);
    }

    /** A seed whose first draw of 100 is this one. */
    private static long seedOf(int drawn) {
        long seed = 0;
        while (draw(next(seed), 100) != drawn) {
            seed++;
        }
        return seed;
    }

    private static int astrayBy(int fogs, long seed) {
        DarkLamps x = Due.net("tb1l3;rd1");
        x.fogs(fogs);
        x.years(1, seed);
        return x.astray();
    }

    private static void draws(Due due) {
        for (int drawn : new int[] {0, 1, 49, 98, 99}) {
            long seed = seedOf(drawn);
            due.same("draw " + drawn + ", FOGS 0", astrayBy(0, seed), 1);
            due.same("draw " + drawn + ", FOGS alike", astrayBy(drawn, seed), 1);
            due.same("draw " + drawn + ", FOGS one more", astrayBy(Math.min(99, drawn + 1), seed), drawn == 99 ? 1 : 0);
            due.same("draw " + drawn + ", FOGS 99", astrayBy(99, seed), drawn == 99 ? 1 : 0);
        }
        DarkLamps x = Due.net("tb1l3;rd1");
        due.same("FOGS 99", x.fogs(99), true);
        due.same("FOGS 100", x.fogs(100), false);
        due.same("FOGS 99 again", x.fogs(99), false);
        due.same("FOGS 0", x.fogs(0), true);
        due.same("FOGS 0 again", x.fogs(0), false);
        due.same("FOGS -1", x.fogs(-1), false);
        x.fogs(99);
        x.go(1);
        due.same("no FOG by go", x.astray(), 1);
        due.same("years(1)", x.years(1, 0), 2);
        due.same("years(200)", x.years(200, 0), 202);
        due.same("years(201)", x.years(201, 0), -1);
        due.same("years(0)", x.years(0, 0), -1);
    }

    /** The seed as it is, 64 bits going round, shifted without sign: one draw each HOUR, FOG or none. */
    private static void goesRound(Due due) {
        long[] seeds = {0, 1, -1, Long.MIN_VALUE, Long.MAX_VALUE, 1L << 33, 1L << 32, -(1L << 33), 123456789012345L, 5};
        for (long seed : seeds) {
            DarkLamps x = Due.net("nm2;tb1;ta1b0;rd9");
            x.fogs(50);
            long state = seed;
            int toGo = 9;
            boolean in = false;
            for (int h = 0; h < 5; h++) {
                state = next(state);
                in = draw(state, 100) >= 50;
                toGo -= in ? 1 : 0;
            }
            x.years(5, seed);
            due.same("seed " + seed + ": DARKS to go", train(x, 0, 2), toGo);
            due.same("seed " + seed + ": in a DARK", x.astray(), in ? 1 : 0);
            DarkLamps y = Due.net("nm7h6;rd1;rd1");
            y.undo();
            y.years(1, seed);
            y.go(22);
            y.sent(0, 0, 1);
            y.go(1);
            due.same("seed " + seed + ": the HOUR", y.count(7), 30);
            y.years(1, seed);
            due.same("seed " + seed + ": a dawn", y.log(0, 1), draw(next(next(seed)), 7));
        }
    }

    /** At HOUR 6, 30, .. alone each TRAIN that comes OUT does so elsewhere, by draws in the order of numbers. */
    private static void dawns(Due due) {
        for (int hour : new int[] {5, 6, 7, 18, 29, 30, 31, 54}) {
            DarkLamps x = Due.net("nm8;tb1l2;rd0");
            if (hour > 2) {
                x.go(hour - 2);
            }
            for (int i = 0; i < 3; i++) {
                x.sent(0, 0, 1);
            }
            x.go(2);
            long state = next(77);
            x.years(1, 77);
            for (int i = 2; i >= 0; i--) {
                state = next(state);
                due.same("HOUR " + hour + ": where", x.log(i, 1), hour % 24 == 6 ? draw(state, 8) : 1);
                due.same("HOUR " + hour + ": who", x.log(i, 0), 3 - i);
            }
        }
        for (int m = 1; m <= 8; m++) {
            DarkLamps x = Due.net("nm" + m + "h5;rd2;rd2");
            x.go(1);
            x.years(2, m);
            long first = next(next(m));
            long second = next(first);
            due.same("of " + m + ": where", x.log(3, 1), draw(first, m));
            due.same("of " + m + ": where", x.log(2, 1), draw(second, m));
            due.same("of " + m + ": from there on", x.log(0, 1), draw(second, m));
            due.same("of " + m + ": MEETINGS", x.count(8), draw(first, m) == draw(second, m) ? 2 : 0);
        }
        DarkLamps z = Due.net("nm8h6;tb1;rd1;rd0");
        z.years(1, 4);
        due.same("one that goes in at dawn goes where it goes", train(z, 0, 0), 1);
        due.same("one that does not come OUT stays", train(z, 1, 0), 0);
        DarkLamps y = Due.net("nm8h6;tb1;rd1h23");
        y.go(24);
        due.same("no dawn by go", y.go(1) == 31 && y.log(0, 1) == 1 && y.log(0, 2) == 30, true);
    }

    private static void fogAtDawn(Due due) {
        DarkLamps x = Due.net("nm8h5;tb1;rd2");
        long seed = seedOf(3);
        x.fogs(4);
        x.go(1);
        x.years(1, seed);
        due.same("FOG at dawn: OUT", x.log(0, 1), draw(next(next(seed)), 8));
        due.same("FOG at dawn: not in", x.astray(), 0);
        due.same("FOG at dawn: where it is", train(x, 0, 0), draw(next(next(seed)), 8));
        due.same("FOG at dawn: to go", train(x, 0, 2), 1);
    }

    /* ---- IMAGES ---- */

    private static void image(Due due) {
        due.same("image of no NET", new DarkLamps().image(), -1);
        due.same("back of no NET", new DarkLamps().back(), -1);
        DarkLamps x = Due.net("nh9;rd3;tb1");
        due.same("back of no IMAGE", x.back(), -1);
        due.same("image", x.image(), 9);
        x.go(4);
        due.same("undo behind an IMAGE", x.undo() * 100 + x.count(7), 312);
        due.same("image instead", x.image(), 12);
        x.go(2);
        due.same("back", x.back(), 12);
        due.same("no ACT can be UNDONE", x.undo(), -1);
        due.same("no ACT can be UNDONE", x.count(13), 0);
        x.go(1);
        due.same("an ACT behind BACK", x.undo(), 0);
        due.same("back again", x.go(7) == 19 && x.back() == 12, true);
        Due.feed(x, "nm9");
        due.same("a FAULT keeps the IMAGE", x.text(0) == -1 && x.back() == 12, true);
        Due.feed(x, "y:1");
        due.same("a LAW keeps the IMAGE", x.text(1) == 0 && x.back() == 12, true);
        Due.feed(x, "nh9;rd3;tb1");
        due.same("another NET, though alike, has none", x.text(0) == 4 && x.back() == -1, true);
    }

    private static void imageKeepsAll(Due due) {
        DarkLamps x = Due.net("nm3c2f3;tb1;ta1b0;tc1b8;rd9;rd9;rc1h20d9;ga1");
        x.go(4);
        x.lamp(2, 1);
        x.image();
        List<Integer> then = seen(x);
        Due.rule(x, "y:l+1");
        x.fogs(3);
        x.lay(0, 0, 1, 1);
        x.go(3);
        x.sent(2, 1, 3);
        x.show(0, 1, 2);
        x.show(0, 0, 2);
        x.guard(1, false);
        x.guard(0, true);
        x.lamp(2, 0);
        x.years(30, 8);
        due.that("all is another", !seen(x).equals(then));
        x.back();
        due.that("all is as it was", seen(x).equals(then));
        due.same("LAW, FOGS, STRINGS LAID stay", x.count(6) * 100 + x.count(9) * 10 + x.count(11), 31);
        DarkLamps y = Due.net("nm2;tb1;rd3;rd3");
        y.image();
        y.go(9);
        y.back();
        due.same("no LOG and no MEETINGS again", y.count(12) + y.count(8) + y.visits(1), 0);
        y.go(2);
        due.same("a LOG anew", y.count(12), 2);
    }

    private static List<Integer> seen(DarkLamps x) {
        List<Integer> all = new ArrayList<>();
        for (int what : new int[] {0, 1, 2, 3, 7, 8, 10, 12}) {
            all.add(x.count(what));
        }
        for (int train = 0; train < 3; train++) {
            for (int what = 0; what <= 3; what++) {
                all.add(train(x, train, what));
            }
            all.add(x.due(train));
        }
        for (int dark = 0; dark < 6; dark++) {
            all.add(x.dark(dark / 2, dark % 2, 0));
        }
        for (int mouth = 0; mouth < 3; mouth++) {
            all.add(x.guards(mouth));
            all.add(x.visits(mouth));
        }
        for (int i = 0; i < 6; i++) {
            all.add(x.log(i, 0) * 100 + x.log(i, 1) * 10 + x.log(i, 2));
        }
        return all;
    }
}
