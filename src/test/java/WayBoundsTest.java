/** Terms 3: the least and the most DARKS, sets, delays, STRINGS, HOURS ago, what is alike and what is never. */
final class WayBoundsTest {
    private static final int NONE = -1;

    static void run(Due due) {
        darks(due);
        comes(due);
        rounds(due);
        changes(due);
        soonest(due);
        cheapest(due);
        sets(due);
        reached(due);
        lamps(due);
        delays(due);
        threeDarks(due);
        alikeOut(due);
        startsAsTold(due);
        strings(due);
        unknown(due);
        contradicted(due);
        tells(due);
        yards(due);
        unseen(due);
        posts(due);
        halves(due);
        smuggles(due);
        rests(due);
        trainsNow(due);
        loopsAndSafe(due);
        asItIs(due);
    }

    private static final String RING = "nm8c2;tb1;ta1b2;ta2b3;ta3b4;ta4b5;ta5b6;ta6b7;ta7b0";
    private static final String ROW = "nm8c2;tb1;ta1b2;ta2b3;ta3b4;ta4b5;ta5b6;ta6b7";

    /* ---- DARKS ---- */

    /** What a MOUTH and a COLOUR are, to the last: not known by COLOUR 4, UNLIT beside what is not known. */
    private static void darks(Due due) {
        DarkLamps x = Due.net("nm8c5;ta7c4b8l9;ta1b8l9;ta3c4b5l9;ta6c4b7l8");
        for (int mouth = 0; mouth < 8; mouth++) {
            for (int colour = 0; colour < 5; colour++) {
                int dark = mouth * 10 + colour;
                int to = dark == 74 || dark == 10 ? -1000000 : dark == 34 ? 5 : dark == 64 ? 7 : mouth;
                due.same("where to of " + dark, x.dark(mouth, colour, 0), to);
                due.same("HOURS of " + dark, x.dark(mouth, colour, 1), dark == 34 ? 9 : dark == 64 ? 8 : 1);
            }
            due.same("where to of UNLIT at " + mouth, x.dark(mouth, 5, 0), mouth);
            due.same("HOURS of UNLIT at " + mouth, x.dark(mouth, 5, 1) + x.dark(mouth, 5, 2), 2);
            due.same("comes UNLIT at " + mouth, x.comes(mouth, 5, 1), mouth);
        }
        due.same("unknown by COLOUR 4 is shown", x.show(7, 4, 0), -1000000);
    }

    private static void comes(Due due) {
        DarkLamps ring = Due.net(RING);
        DarkLamps row = Due.net(ROW);
        for (int n = 0; n <= 99; n++) {
            due.same("comes round " + n, ring.comes(0, 0, n), n % 8);
            due.same("comes along " + n, row.comes(0, 0, n), Math.min(n, 7));
            due.same("comes without a TUNNEL " + n, ring.comes(3, 1, n), 3);
            due.same("comes UNLIT " + n, ring.comes(3, 5, n), 3);
        }
        for (int n : new int[] {-1, 100, Integer.MAX_VALUE, Integer.MIN_VALUE}) {
            due.same("comes " + n, ring.comes(0, 0, n), NONE);
            due.same("comes UNLIT " + n, ring.comes(0, 5, n), NONE);
        }
        due.same("not known: to itself", Due.net("nm2;tb8").comes(0, 0, 5), 0);
        due.same("LAMPS do not fade", Due.net("nm4c2f1;tc1b1;ta1c1b2;ta2c1b3").comes(0, 1, 3), 3);
    }

    private static void rounds(Due due) {
        DarkLamps row = Due.net(ROW);
        DarkLamps ring = Due.net(RING);
        for (int mouth = 0; mouth < 8; mouth++) {
            due.same("round of a row from " + mouth, row.round(mouth, 0, 0) * 10 + row.round(mouth, 0, 1), (7 - mouth) * 10 + 1);
            due.same("round of a ring from " + mouth, ring.round(mouth, 0, 0) * 10 + ring.round(mouth, 0, 1), 8);
            due.same("round without a TUNNEL", ring.round(mouth, 1, 0) * 10 + ring.round(mouth, 1, 1), 1);
            due.same("round UNLIT", ring.round(mouth, 5, 0) * 10 + ring.round(mouth, 5, 1), 1);
        }
        for (int back = 0; back < 8; back++) {
            DarkLamps x = Due.net(ROW + ";ta7b" + back);
            due.same("round back to " + back, x.round(0, 0, 0) * 10 + x.round(0, 0, 1), back * 10 + 8 - back);
        }
        due.same("round of one MOUTH", Due.net("nm1").round(0, 0, 0) * 10 + Due.net("nm1").round(0, 0, 1), 1);
    }

    private static void changes(Due due) {
        DarkLamps x = Due.net("nm8c2;tb1;ta1c1b2;ta2b3;ta3c1b4;ta4b5;ta5c1b6;ta6b7");
        for (int to = 0; to < 8; to++) {
            due.same("changes to " + to, x.changes(0, to, 3), Math.max(0, to - 1));
            due.same("changes by one LAMP to " + to, x.changes(0, to, 1), to < 2 ? 0 : NONE);
            due.same("changes back from " + to, x.changes(to, 0, 3), to == 0 ? 0 : NONE);
            due.same("the first LAMP is none", x.changes(1, to, 2), to == 1 || to == 2 ? 0 : NONE);
        }
        due.same("a way of more DARKS and fewer changes", Due.net("nm4c2;tb1;ta1b2;ta2b3;tc1b2").changes(0, 3, 3), 0);
    }

    private static void soonest(Due due) {
        DarkLamps x = Due.net("nm8c2;tb1l9;ta1b2l9;ta2b3l9;ta3b4l9;ta4b5l9;ta5b6l9;ta6b7l9;tc1b7l9");
        for (int to = 0; to < 8; to++) {
            due.same("soonest to " + to, x.soonest(0, to, 1, 0), 9 * to);
            due.same("soonest to " + to + ", first", x.soonest(0, to, 1, 1), to == 0 ? NONE : 0);
            due.same("cheapest to " + to, x.cheapest(0, to, 1), 9 * to);
            due.same("unseen to " + to, x.unseen(0, to), to == 7 ? 9 : 9 * to);
        }
        due.same("soonest by both", x.soonest(0, 7, 3, 0) * 10 + x.soonest(0, 7, 3, 1), 91);
        due.same("soonest by 1 alone", x.soonest(0, 6, 2, 0), NONE);
        due.same("soonest by 1 alone, first", x.soonest(0, 6, 2, 1), NONE);
        DarkLamps y = Due.net("nm3c5;tc4b1;tc3b1;tc2b2;ta2b1l9");
        due.same("the least first COLOUR", y.soonest(0, 1, 31, 1), 3);
        due.same("the least first COLOUR of a set", y.soonest(0, 1, 1 << 4, 1), 4);
        due.same("the least first COLOUR of a set", y.soonest(0, 1, 1 << 4 | 1 << 2 | 1, 1), 4);
        due.same("the only one", y.soonest(0, 1, 1 << 2 | 1, 1) * 100 + y.soonest(0, 1, 1 << 2 | 1, 0), 210);
    }

    private static void cheapest(Due due) {
        DarkLamps x = Due.net(ROW);
        Due.rule(x, "y:0");
        due.same("for nothing", x.cheapest(0, 7, 1), 0);
        Due.rule(x, "y:9999");
        due.same("seven times 99", x.cheapest(0, 7, 1), 693);
        Due.rule(x, "y:0-5");
        due.same("no PRICE is below 0", x.cheapest(0, 7, 1), 0);
        due.same("to itself", x.cheapest(7, 7, 1), 0);
        due.same("never", x.cheapest(7, 0, 3), NONE);
        DarkLamps z = Due.net("nm3c2;ta1b0;tb2;ta1c1b2l9");
        due.same("through MOUTH 0", z.cheapest(1, 2, 3) * 10 + z.unseen(1, 2), 22);
        due.same("not through MOUTH 0, guarded", z.guard(0, true) * 10 + z.unseen(1, 2), 19);
        DarkLamps y = Due.net("nm4c2;tb1l9;ta1b2l9;tc1b2l9;ta2b3;ta2c1b3");
        Due.rule(y, "y:c=1?50;y:a+1");
        due.same("by a, more DARKS", y.cheapest(0, 2, 3), 3);
        due.same("by a", y.cheapest(0, 3, 3), 6);
        due.same("by COLOUR 1", y.cheapest(0, 3, 2), 99 + 1);
    }

    /** Sets: at least one COLOUR, all of them at most, none that is not of the NET. */
    private static void sets(Due due) {
        for (int c = 1; c <= 5; c++) {
            DarkLamps x = Due.net("nm2c" + c + ";tb1");
            for (int set = -2; set <= 33; set++) {
                boolean isSet = set >= 1 && set < 1 << c;
                String what = "c " + c + ", set " + set + ": ";
                due.same(what + "changes", x.changes(1, 1, set), isSet ? 0 : NONE);
                due.same(what + "soonest", x.soonest(1, 1, set, 0), isSet ? 0 : NONE);
                due.same(what + "cheapest", x.cheapest(1, 1, set), isSet ? 0 : NONE);
                due.same(what + "reached", x.reached(0, set), isSet ? 1 + 2 * (set & 1) : NONE);
                due.same(what + "halves", x.halves(1, 1, set), isSet ? 0 : NONE);
                due.same(what + "changes to another one", x.changes(0, 1, set), isSet && (set & 1) == 1 ? 0 : NONE);
            }
        }
    }

    private static void reached(Due due) {
        DarkLamps x = Due.net(ROW);
        for (int from = 0; from < 8; from++) {
            due.same("reached from " + from, x.reached(from, 1), 256 - (1 << from));
            due.same("reached by no TUNNEL", x.reached(from, 2), 1 << from);
        }
        due.same("one MOUTH", Due.net("nm1c1").reached(0, 1), 1);
        due.same("not known: itself", Due.net("nm2;tb8").reached(0, 7), 1);
    }

    private static void lamps(Due due) {
        due.same("no NET", new DarkLamps().lamps(), NONE);
        due.same("one MOUTH: none is enough", Due.net("nm1c5").lamps(), 0);
        due.same("two MOUTHS: none is not", Due.net("nm2c5").lamps(), NONE);
        due.same("a ring", Due.net(RING).lamps(), 1);
        due.same("a row", Due.net(ROW).lamps(), NONE);
        due.same("a row and back", Due.net(ROW + ";ta7c1b0").lamps(), 3);
        due.same("all five", Due.net("nm6c5;tb1;ta1c1b2;ta2c2b3;ta3c3b4;ta4c4b5;ta5b0").lamps(), 31);
        due.same("the last alone", Due.net("nm2c5;tc4b1;ta1c4b0;tb1;ta1c1b0").lamps(), 16);
        due.same("of several the least", Due.net("nm2c5;tc4b1;ta1c4b0;tc3b1;ta1c3b0").lamps(), 8);
        due.same("of pairs the least", Due.net("nm2c5;tc4b1;ta1b0;tc3b1").lamps(), 9);
    }

    /* ---- TIMETABLES ---- */

    private static void table(Due due, String net, int hours, int digits, int clashes) {
        DarkLamps x = Due.net(net);
        due.same("timetable HOURS of " + net, x.timetable(0), hours);
        due.same("timetable digits of " + net, x.timetable(1), digits);
        due.same("clashes of " + net, x.clashes(), clashes);
    }

    private static void delays(Due due) {
        table(due, "n", 0, 0, 0);
        table(due, "n;rd1", 0, 0, 0);
        String net = "nm2c1;tb1";
        int[] hours = {0, 1, 3, 6, 10, NONE};
        int[] digits = {0, 1, 12, 123, 1234, NONE};
        for (int many = 1; many <= 6; many++) {
            net += ";rd1";
            table(due, net, hours[many - 1], digits[many - 1], many * (many - 1) / 2);
        }
        table(due, "nm2c1;tb1;rd1h4;rd1h3;rd1h2;rd1h1;rd1", 0, 0, 0);
        table(due, "nm2c1;tb1;rd1h4;rd1h3;rd1h2;rd1h1;rd1h4", 1, 1, 1);
        table(due, "nm2c1;tb1;rd1h4;rd1h3;rd1h2;rd1h1;rd1;rd1", 5, 401, 1);
        table(due, "nm2c1;tb1;rd1;rd1h1;rd1h2;rd1h3;rd1h4;rd1h4", 1, 1, 1);
        table(due, "nm2c1;tb1;rd1h99;rd1h99", 1, 1, 1);
        table(due, "nm2c1;tb1;rd1;rd1h4;rd1;rd1;rd1;rd1", 11, 11234, 10);
        table(due, "nm2c1;tb1;rd1h4;rd1;rd1;rd1;rd1;rd1", 11, 101234, 10);
        table(due, "nm2c1;tb1;rd0;rd0;rd0;rd0;rd0;rd0", 0, 0, 0);
    }

    /** At most three DARKS each: the third one counts, the fourth one does not. */
    private static void threeDarks(Due due) {
        table(due, "nm6c2;tb1;ta1b2;ta2b3;tc1b1;ra3c1d0;rd3;ra2h2d1", 1, 1, 1);
        table(due, "nm6c2;tb1;ta1b2;ta2b3;ta3b4;rd4;ra3h3d1", 0, 0, 0);
        table(due, "nm6c2;tb1;ta1b2;ta2b3;ta3b4;rd9;ra2h2d1", 1, 1, 1);
        table(due, "nm6c2;tb1;ta1b2;ta2b3;ta3b4;rd2;ra2h2d1", 0, 0, 0);
        table(due, "nm1c1;rd9;rh3d9", 0, 0, 0);
        table(due, "nm1c1;rd9;rh2d9", 1, 1, 1);
        table(due, "nm1c1;rd9;rd9", 3, 3, 3);
        table(due, "nm1c1;rd9;rd9;rd9", NONE, NONE, 9);
        table(due, "nm1c1;rd3;rd3", 3, 3, 3);
        table(due, "nm1c1;rd2;rd2", 2, 2, 2);
    }

    private static void alikeOut(Due due) {
        table(due, "nm1c2;rd1;rc1d1", 0, 0, 0);
        table(due, "nm1c2;rc5d1;rc1d1", 0, 0, 0);
        table(due, "nm1c2;rc5d1;rc5d1", 1, 1, 1);
        table(due, "nm2c2;rc5d1;rc5d1a1", 0, 0, 0);
        table(due, "nm3c3;rc5d1;ra1d1;ra2c1d1;ra1c5d1;ra2d1;ra1c2d1", 0, 0, 0);
        table(due, "nm8c5;rc4d1;ra1d1;ra2c3d1;ra3c2d1;ra4c1d1;ra1c5d1", 0, 0, 0);
        // Both are UNLIT as they come OUT, one of them by fading.
        table(due, "nm1c2f1;rc5d1;rd1", 1, 1, 1);
        // It fades from its later start: 1 and 0 behind one HOUR and two, an HOUR later.
        table(due, "nm1c2f2;rc1d2;rc1d2", 1, 1, 2);
        table(due, "nm1c2f2;rc1d2;rd1h1", 1, 1, 1);
        // COLOUR 1 for one HOUR, then 0 leads elsewhere.
        table(due, "nm3c2f2;tc1b1l2;ta1b2;rc1d2;ra1d1h2", 1, 1, 1);
    }

    private static void startsAsTold(Due due) {
        DarkLamps x = Due.net("nm2c1h20;tb1;rd1h5;rd1h5");
        due.same("as told", x.timetable(1) * 10 + x.clashes(), 11);
        x.go(30);
        x.sent(0, 0, 1);
        x.lamp(0, 5);
        due.same("as told, later", x.timetable(1) * 10 + x.clashes(), 11);
        x.show(0, 0, 0);
        due.same("by another DARK", x.timetable(1) * 10 + x.clashes(), 11);
        Due.feed(x, "nm1c1;rd9;rd9;rd9");
        x.text(0);
        due.same("another NET: there is none", x.timetable(1) * 10 + x.timetable(0), -11);
        due.same("another NET: clashes", x.clashes(), 9);
        due.same("no NET", new DarkLamps().timetable(0) + new DarkLamps().timetable(1) + new DarkLamps().clashes(), -3);
    }

    /* ---- STRINGS LAID ---- */

    private static void strings(Due due) {
        DarkLamps x = Due.net(ROW + ";ta7b8");
        for (int k = 1; k <= 4; k++) {
            due.same("k " + k, x.lay(8 - k, 0, k, 3), k);
            due.same("k " + k + ": by it", x.nets(NONE) * 10 + x.nets(0), 13);
        }
        for (int k = 5; k <= 10; k++) {
            due.same("laid", x.lay(0, 0, 1, 1), k);
        }
        due.same("an eleventh", x.lay(0, 0, 1, 1), NONE);
        due.same("ten", x.count(11), 10);
        due.same("k 0", Due.net(RING).lay(0, 0, 0, 0), NONE);
        due.same("k 5", Due.net(RING).lay(0, 0, 5, 5), NONE);
        for (int last = 0; last < 10; last++) {
            DarkLamps y = Due.net("nm8c1;tb8");
            for (int i = 0; i < 10; i++) {
                y.lay(i == last ? 0 : 1, 0, 1, 1);
            }
            due.same("STRING " + last + " of ten tells", y.nets(NONE) * 10 + y.nets(0), 11);
        }
        DarkLamps z = Due.net("nm5c1;tb8;ta1b2;ta2b3;ta3b4");
        z.lay(0, 0, 4, 4);
        due.same("through four DARKS", z.could(0), 2 + 4 + 8 + 16);
        z.lay(0, 0, 3, 4);
        due.same("through three DARKS", z.could(0), 4 + 8 + 16);
        z.lay(0, 0, 2, 4);
        due.same("through two DARKS", z.could(0), 8 + 16);
        z.lay(0, 0, 1, 4);
        due.same("through one DARK", z.could(0), 16);
    }

    /** Where ";tc3b8;tb8;tc2b8;tc1b8" ends behind so many unknown ones. */
    private static final int[] UNKNOWN_END = {0, 6, 10, 16, 22};

    private static void unknown(Due due) {
        for (int many = 0; many <= 4; many++) {
            for (int m = 1; m <= 8; m++) {
                DarkLamps x = Due.net("nc4m" + m + ";tc3b8;tb8;tc2b8;tc1b8".substring(0, UNKNOWN_END[many]));
                int all = (int) Math.pow(m, many);
                String what = many + " unknown of " + m + ": ";
                due.same(what + "count", x.count(10), many);
                due.same(what + "nets", x.nets(NONE), all);
                due.same(what + "first", x.nets(0), 0);
                due.same(what + "last", x.nets(all - 1), Integer.parseInt(("" + (m - 1)).repeat(many) + "0") / 10);
                due.same(what + "no such one", x.nets(all), NONE);
                due.same(what + "no such one", x.nets(-2), NONE);
                due.same(what + "could", x.could(many - 1), many == 0 ? NONE : (1 << m) - 1);
                due.same(what + "could of no such one", x.could(many), NONE);
                due.same(what + "tells", x.tells(0), many == 0 ? NONE : 0);
                due.same(what + "tells, how many", x.tells(1), many == 0 ? NONE : all / m);
            }
        }
        DarkLamps y = Due.net("nm4c2;tc1b8;tb8;ta1b8");
        y.lay(0, 1, 1, 3);
        y.lay(1, 0, 1, 2);
        due.same("in order of TUNNELS", y.nets(1), 312);
        due.same("in order of TUNNELS", y.could(0) * 100 + y.could(2), 804);
        y.show(0, 1, 3);
        due.same("without the shown one", y.nets(1), 12);
        due.same("without the shown one", y.could(0) * 100 + y.could(1), 1504);
        due.same("without the shown one", y.count(10), 2);
        y.undo();
        due.same("unknown again", y.nets(1) * 10 + y.count(10), 3123);
    }

    private static void contradicted(Due due) {
        DarkLamps x = Due.net("nm4c2;tb8;ta1b2");
        x.lay(1, 0, 1, 3);
        due.same("none", x.nets(NONE), 0);
        due.same("none: the first", x.nets(0), NONE);
        due.same("none: could", x.could(0), 0);
        due.same("none: tells", x.tells(0), NONE);
        due.same("none: tells, how many", x.tells(1), NONE);
        x.show(1, 0, 3);
        due.same("the NET as it is", x.nets(NONE), 4);
        x.show(0, 0, 1);
        due.same("nothing is unknown", x.nets(NONE) * 10 + x.nets(0), 10);
        due.same("nothing is unknown: tells", x.tells(0) + x.tells(1) + x.could(0), -3);
        x.undo();
        due.same("unknown again", x.nets(NONE), 4);
        due.same("unknown again: tells", x.tells(0) * 10 + x.tells(1), 1);
    }

    private static void tells(Due due) {
        DarkLamps x = Due.net("nm4c4;tb8;tc1b8;tc2b8;tc3b8");
        x.lay(0, 0, 1, 1);
        due.same("the first is told, the second tells", x.tells(0) * 100 + x.tells(1), 116);
        x.lay(0, 1, 1, 1);
        due.same("the third tells", x.tells(0) * 100 + x.tells(1), 204);
        x.lay(0, 2, 1, 1);
        due.same("the fourth tells", x.tells(0) * 100 + x.tells(1), 301);
        x.lay(0, 3, 1, 1);
        due.same("one NET: of several the first", x.tells(0) * 100 + x.tells(1), 1);
        x.show(0, 0, 1);
        due.same("of those that are unknown", x.tells(0) * 100 + x.tells(1), 1);
        due.same("no such what", x.tells(-1) + x.tells(2), -2);
        DarkLamps y = Due.net("nm8c2;tb8;tc1b8");
        y.lay(0, 1, 1, 0);
        due.same("the second is told, the first tells", y.tells(0) * 100 + y.tells(1), 1);
        DarkLamps z = Due.net("nm8c2;tb8;tc1b8");
        z.lay(0, 0, 1, 7);
        due.same("the first is told, the second tells", z.tells(0) * 100 + z.tells(1), 101);
        due.same("no NET", new DarkLamps().tells(0) + new DarkLamps().tells(1), -2);
    }

    /* ---- who came from where ---- */

    private static void yards(Due due) {
        DarkLamps x = Due.net(RING);
        for (int h = 0; h <= 60; h++) {
            due.same("yards h " + h, x.yards(h % 8, 0, h), 1);
            due.same("yards UNLIT h " + h, x.yards(5, 5, h), 32);
        }
        due.same("yards h -1", x.yards(0, 0, -1), NONE);
        due.same("yards h 61", x.yards(0, 0, 61), NONE);
        DarkLamps y = Due.net("nm4c2f9;tb1l9;ta1b2l9;ta2b3l9");
        for (int h = 0; h <= 60; h++) {
            // UNLIT behind the first DARK: it stays where it came OUT, and comes OUT there each HOUR.
            due.same("yards l 9, h " + h, y.yards(1, 0, h), h == 0 ? 2 : h < 9 ? 0 : 1);
        }
        DarkLamps z = Due.net("nm3c3f1;tc2b1;ta1c1b2;ta2b0");
        due.same("a LAMP that fades, once", z.yards(1, 2, 1) * 10 + z.yards(2, 2, 1), 34);
        due.same("a LAMP that fades, twice", z.yards(2, 2, 2), 7);
        due.same("a LAMP that fades, to the last", z.yards(0, 2, 3), 7);
        due.same("a LAMP that fades, then UNLIT", z.yards(0, 2, 60), 7);
        due.same("none comes elsewhere", z.yards(1, 2, 3), 0);
    }

    private static void unseen(Due due) {
        DarkLamps x = Due.net("nm4c2;tb1;ta1b2;ta2b3;tc1b3l9;ga0;ga3");
        due.same("both are guarded", x.unseen(0, 3), 3);
        x.guard(2, true);
        due.same("one on the way", x.unseen(0, 3), 9);
        due.same("up to it", x.unseen(0, 2), 2);
        due.same("from it", x.unseen(2, 3), 1);
        x.guard(2, false);
        due.same("it goes", x.unseen(0, 3), 3);
        x.guard(1, true);
        x.show(0, 1, 0);
        due.same("never", x.unseen(0, 3), NONE);
        due.same("to itself", x.unseen(3, 3), 0);
        due.same("to itself, guarded", x.unseen(1, 1), 0);
        due.same("all COLOURS", Due.net("nm2c5;tc4b1l9").unseen(0, 1), 9);
    }

    private static void posts(Due due) {
        DarkLamps x = Due.net("nm8c3;tb1;tc1b2;ta1b3;ta2b3;ta3b4;ta4b5;ta3c1b6;ta6b5;ta5b7");
        due.same("the least of ones", x.posts(0, 7), 8);
        due.same("two", x.posts(0, 3), 2 + 4);
        due.same("two", x.posts(3, 7), 32);
        due.same("two", x.posts(3, 5), 16 + 64);
        x.guard(6, true);
        due.same("one besides", x.posts(3, 5), 16);
        x.guard(4, true);
        due.same("none besides", x.posts(3, 5), 0);
        due.same("no way at all", x.posts(7, 0), 0);
        due.same("no MOUTH between", x.posts(5, 7), NONE);
        due.same("alike", x.posts(5, 5), NONE);
        DarkLamps y = Due.net("nm8c3;tb1;tc1b2;tc2b3;ta1b7;ta2b7;ta3b7");
        due.same("three", y.posts(0, 7), 14);
        y.guard(0, true);
        y.guard(7, true);
        due.same("GUARDS of both tell nothing", y.posts(0, 7), 14);
        DarkLamps z = Due.net("nm8c5;tb2;ta2b1;tc1b3;ta3b1;tc2b4;ta4b1;tc3b5;ta5b1;tc4b6;ta6b1");
        DarkLamps v = Due.net("nm4c2;ta1b0;tb2;ta1c1b3;ta3b2");
        due.same("through MOUTH 0", v.posts(1, 2), 1 + 8);
        v.guard(3, true);
        due.same("MOUTH 0 alone", v.posts(1, 2), 1);
        due.same("five", z.posts(0, 1), 4 + 8 + 16 + 32 + 64);
    }

    private static void halves(Due due) {
        DarkLamps row = Due.net(ROW);
        for (int one = 0; one < 8; one++) {
            for (int other = 0; other < 8; other++) {
                int want = one == other ? 0 : 7 - Math.min(one, other);
                due.same("halves of a row " + one + " " + other, row.halves(one, other, 1), want);
                due.same("halves without a TUNNEL", row.halves(one, other, 2), one == other ? 0 : NONE);
                due.same("halves of a ring", Due.net(RING).halves(one, other, 1), one == other ? 0 : NONE);
            }
        }
        // Cerny's ring of eight: one COLOUR goes round, the other one leads from 7 to 0 alone.
        DarkLamps x = Due.net(RING + ";ta7c1b0");
        due.same("halves of a ring with a step", x.halves(7, 0, 3), 1);
        due.same("halves of a ring with a step", x.halves(6, 7, 3), 2);
        due.same("halves of a ring with a step", x.halves(0, 1, 3), 8);
        due.same("halves of a ring with a step, the most", x.halves(0, 4, 3), 28);
        due.same("halves of a ring with a step, the most", x.halves(4, 0, 3), 28);
        due.same("halves of a ring with a step", x.halves(1, 5, 3), 27);
        due.same("a DARK of nine HOURS is one", Due.net("nm2;tb1l9").halves(0, 1, 1), 1);
        due.same("not known: to itself", Due.net("nm2;tb8;ta1b0").halves(0, 1, 1), 1);
    }

    /* ---- games ---- */

    private static void smuggles(Due due) {
        DarkLamps x = Due.net(RING);
        for (int n = 1; n <= 9; n++) {
            due.same("n " + n + ": met at 1", x.smuggles(0, n, 0, 1), n < 9 ? n - 1 : 7);
            due.same("n " + n + ": met at 0", x.smuggles(0, n, 0, 0), n < 8 ? n : n - 1);
            due.same("n " + n + ": stays", x.smuggles(0, n, 1, 0), 0);
            due.same("n " + n + ": stays elsewhere", x.smuggles(0, n, 1, 1), n);
        }
        x.guard(3, true);
        due.same("other GUARDS are none", x.smuggles(0, 9, 0, 1), 7);
        due.same("n 0", x.smuggles(0, 0, 0, 0), -1000000);
        due.same("n 10", x.smuggles(0, 10, 0, 0), -1000000);
        due.same("no NET", new DarkLamps().smuggles(0, 1, 0, 0), -1000000);
    }

    private static void rests(Due due) {
        DarkLamps x = Due.net("nm8c5");
        for (int n = 1; n <= 9; n++) {
            due.same("all stay: how many", x.rests(7, n, NONE), 5);
            for (int i = 0; i < 5; i++) {
                due.same("all stay: the " + i, x.rests(7, n, i), 10 * i + 7);
            }
            due.same("all stay: no such one", x.rests(7, n, 5), NONE);
            due.same("all stay: no such one", x.rests(7, n, -2), NONE);
        }
        for (int mouth = 0; mouth < 8; mouth++) {
            due.same("all stay at " + mouth, x.rests(mouth, 1, NONE) * 100 + x.rests(mouth, 1, 4), 540 + mouth);
        }
        due.same("n 0", x.rests(0, 0, NONE), NONE);
        due.same("n 10", x.rests(0, 10, NONE), NONE);
        DarkLamps one = Due.net("nm1c1");
        due.same("one of all", one.rests(0, 9, NONE) * 10 + one.rests(0, 9, 0), 10);
        // By COLOUR 0 at 1 and 0 by turns, by COLOUR 1 at 1: a GUARD at 1 leaves it no more than 1 of 2.
        DarkLamps y = Due.net("nm2c2;tb1;ta1b0;tc1b1");
        due.same("a rest", y.rests(0, 2, NONE), 1);
        due.same("a rest", y.rests(0, 2, 0), 1);
        due.same("no second rest", y.rests(0, 2, 1), NONE);
    }

    /* ---- what stands now ---- */

    private static void trainsNow(Due due) {
        DarkLamps x = Due.net("nm2;tb1l9;rd1;rd0;rd1h1");
        due.same("astray", x.astray(), 0);
        due.same("due", x.due(0) + x.due(1) + x.due(2), 0);
        x.go(1);
        due.same("astray", x.astray(), 1);
        due.same("due", x.due(0) * 100 + x.due(1) * 10 + x.due(2), 800);
        x.go(1);
        due.same("astray", x.astray(), 5);
        due.same("due", x.due(0) * 100 + x.due(1) * 10 + x.due(2), 708);
        x.go(7);
        due.same("due in this HOUR", x.due(0) * 10 + x.astray(), 5);
        x.go(1);
        due.same("OUT", x.due(0) * 10 + x.astray(), 4);
        for (int i = 3; i < 8; i++) {
            x.sent(0, 0, 1);
        }
        x.go(1);
        due.same("astray, to the eighth", x.astray(), 255 - 7);
        due.same("due of the eighth", x.due(7) * 100 + x.due(8) + x.due(-1), 798);
        due.same("visits", x.visits(0) * 10 + x.visits(1), 2);
    }

    private static void loopsAndSafe(Due due) {
        DarkLamps x = Due.net("nm8c5;tb1;tc1b8;ta1c4b1l9;ta2b3;ta2c1b3;ta2c2b3;ta2c3b3;ta2c4b3;ta3b4;ta3c1b4;ta3c2b4;ta3c3b4");
        due.same("loops but one", x.loops(0), 30);
        due.same("loops of all", x.loops(1), 31);
        due.same("loops of none", x.loops(2), 0);
        due.same("loops of the last", x.loops(3), 16);
        due.same("safe", x.safe(), 2 + 4 + 16 + 32 + 64 + 128);
        due.same("safe of one COLOUR", Due.net("nm8c1;tb1").safe(), 255);
        due.same("safe of one MOUTH", Due.net("nm1c5").safe(), 1);
        due.same("loops of one COLOUR", Due.net("nm1c1").loops(0), 1);
        due.same("safe of no NET", new DarkLamps().safe(), NONE);
    }

    /** All of Terms 3 is asked of the NET as it is: shown, with GUARDS that came, TRAINS gone on. */
    private static void asItIs(Due due) {
        DarkLamps x = Due.net("nm3c1;tb1l4;ta1b8l5");
        due.same("ahead", x.soonest(0, 2, 1, 0) + x.reached(0, 1) * 10, 29);
        x.show(1, 0, 2);
        due.same("shown", x.soonest(0, 2, 1, 0) + x.reached(0, 1) * 10, 79);
        due.same("shown: comes", x.comes(0, 0, 2), 2);
        due.same("shown: yards", x.yards(2, 0, 8) * 10 + x.yards(2, 0, 9), 67);
        due.same("shown: loops, safe", x.loops(1) * 10 + x.loops(2), 1);
        x.guard(1, true);
        due.same("guarded", x.unseen(0, 2), NONE);
        x.undo();
        due.same("undone", x.unseen(0, 2), 9);
        x.undo();
        due.same("undone", x.unseen(0, 2), NONE);
    }
}
