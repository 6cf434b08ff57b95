/** Promises 26 to 31, 36 and 37: TIMETABLES, CLASHES, NETS by STRINGS LAID, SMUGGLING. */
final class PlansTest {
    static void run(Due due) {
        timetable(due);
        timetableAsTold(due);
        clashes(due);
        lay(due);
        nets(due);
        tells(due);
        smuggles(due);
        rests(due);
    }

    private static void table(Due due, String net, int hours, int digits) {
        DarkLamps x = Due.net(net);
        due.same("timetable HOURS of " + net, x.timetable(0), hours);
        due.same("timetable digits of " + net, x.timetable(1), digits);
    }

    private static void timetable(Due due) {
        table(due, "n", 0, 0);
        table(due, "nm2c2;tb1;rd1", 0, 0);
        table(due, "nm2c2;tb1;rd1;rd1", 1, 1);
        table(due, "nm2c2;tb1;rd0;rd0", 0, 0);
        table(due, "nm2c2;tb1;tc1b1;rd1;rc1d1", 0, 0);
        table(due, "nm2c1;tb1;rd1;rd1;rd1", 3, 12);
        table(due, "nm2c1;tb1;rd1;rd1h1;rd1", 2, 2);
        table(due, "nm2c1;rc5d1;rc5d1", 1, 1);
        table(due, "nm2c1;rc5d9;rc5d9", 3, 3);
        table(due, "nm2c1;r;r;r", -1, -1);
        table(due, "nm2c1;rd1;rd1;rd1;rd1;rd1;rd1", -1, -1);
        table(due, "nm2c1;rd1;rd1;rd1;rd1;rd1", 10, 1234);
        table(due, "nm3c1;tb2l3;ta1b2;rd1;ra1h2d1;rh4d1", 1, 10);
        DarkLamps x = Due.net("n");
        due.same("no what", x.timetable(2), -1);
        due.same("no what", x.timetable(-1), -1);
    }

    private static void timetableAsTold(Due due) {
        // LAMPS fade: 1 comes OUT as 0 behind 2 HOURS, and so clashes with 0.
        table(due, "nm3c2f2;tc1b2l2;ta1b2l2;tc0b2;rc1d1;rh1d1", 1, 1);
        // Without fading they are not alike.
        table(due, "nm3c2;tc1b2l2;tc0b2;rc1d1;rh1d1", 0, 0);
        DarkLamps x = Due.net("nm2c1;tb1;rd1;rh1d1");
        x.go(9);
        x.sent(0, 0, 1);
        x.lamp(0, 5);
        due.same("as told", x.timetable(0), 0);
        due.same("as told", x.clashes(), 0);
        DarkLamps y = Due.net("nm3c1;tb1;ta1b2;rd2;ra2h1d1");
        due.same("the NET as it is", y.clashes(), 1);
        y.show(1, 0, 0);
        due.same("the NET as it is", y.clashes(), 0);
    }

    private static void clashes(Due due) {
        due.same("none", Due.net("n").clashes(), 0);
        due.same("one", Due.net("nm2c2;tb1;rd1;rd1").clashes(), 1);
        due.same("three", Due.net("nm2c2;tb1;rd1;rd1;rd1").clashes(), 3);
        due.same("three DARKS at most", Due.net("nm2c1;r;rd9").clashes(), 3);
        due.same("another LAMP", Due.net("nm2c2;tb1;tc1b1;rd1;rc1d1").clashes(), 0);
        due.same("UNLIT ones", Due.net("nm2c2;rc5d2;rc5h1d2").clashes(), 1);
        due.same("as they come OUT", Due.net("nm2c2f1;rc5d3;rc1d3").clashes(), 2);
    }

    private static void lay(Due due) {
        DarkLamps x = Due.net("nm4c2;tb8;tc1b1;ta1b8");
        due.same("no MOUTH", x.lay(4, 0, 1, 0), -1);
        due.same("no MOUTH", x.lay(0, 0, 1, 4), -1);
        due.same("no COLOUR", x.lay(0, 2, 1, 0), -1);
        due.same("UNLIT", x.lay(0, 5, 1, 0), -1);
        due.same("out of bounds", x.lay(0, 0, 0, 0), -1);
        due.same("out of bounds", x.lay(0, 0, 5, 0), -1);
        for (int many = 1; many <= 10; many++) {
            due.same("laid", x.lay(0, 0, 4, 2), many);
        }
        due.same("an eleventh", x.lay(0, 0, 4, 2), -1);
        due.same("laid", x.count(11), 10);
        due.same("no ACTS", x.count(13), 0);
    }

    /* 0 by COLOUR 0 and 1 by COLOUR 0 are not known. */
    private static void nets(Due due) {
        DarkLamps x = Due.net("nm4c2;tb8;tc1b1;ta1b8");
        due.same("all", x.nets(-1), 16);
        due.same("first", x.nets(0), 0);
        due.same("rising", x.nets(5), 11);
        due.same("last", x.nets(15), 33);
        due.same("no such one", x.nets(16), -1);
        due.same("no such one", x.nets(-2), -1);
        due.same("could", x.could(0), 15);
        x.lay(0, 0, 2, 3);
        // 0 to 1 and 1 to 3, or 0 to 3 (from which there is no TUNNEL).
        due.same("by one STRING", x.nets(-1), 5);
        due.same("by one STRING", x.nets(0), 13);
        due.same("by one STRING", x.nets(1), 30);
        due.same("by one STRING", x.nets(4), 33);
        due.same("could 0", x.could(0), 2 + 8);
        due.same("could 1", x.could(1), 15);
        due.same("could of no such one", x.could(2), -1);
        due.same("could of no such one", x.could(-1), -1);
        x.lay(1, 0, 1, 2);
        due.same("by two STRINGS", x.nets(-1), 1);
        due.same("by two STRINGS", x.nets(0), 32);
        x.show(0, 0, 3);
        due.same("one is shown", x.nets(0), 2);
        due.same("one is shown", x.could(0), 4);
        due.same("one is shown", x.could(1), -1);
        x.show(1, 0, 2);
        due.same("all are shown", x.nets(-1), 1);
        due.same("all are shown", x.nets(0), 0);
        due.same("all are shown", x.nets(1), -1);
        x.show(1, 0, 1);
        due.same("not so any more", x.nets(-1), 0);
        due.same("not so any more", x.nets(0), -1);
        for (int i = 0; i < 3; i++) {
            x.undo();
        }
        due.same("unknown again", x.nets(0), 32);
    }

    private static void tells(Due due) {
        DarkLamps x = Due.net("nm4c2;tb8;tc1b1;ta1b8");
        due.same("of several the first", x.tells(0), 0);
        due.same("how many", x.tells(1), 4);
        due.same("no what", x.tells(2), -1);
        due.same("no what", x.tells(-1), -1);
        x.lay(0, 0, 2, 3);
        // NETS 13, 30, 31, 32, 33: 3 four times for the first, 3 twice for the second.
        due.same("tells", x.tells(0), 1);
        due.same("tells, how many", x.tells(1), 2);
        x.lay(0, 0, 1, 0);
        due.same("no NETS", x.nets(-1), 0);
        due.same("no NETS", x.tells(0), -1);
        due.same("no NETS", x.tells(1), -1);
        due.same("no NETS", x.could(0), 0);
        due.same("nothing unknown", Due.net("n").tells(0), -1);
        due.same("nothing unknown", Due.net("n").nets(0), 0);
        DarkLamps z = Due.net("nm3;tb2;ta2b8");
        z.lay(0, 0, 2, 1);
        due.same("through what is known", z.nets(0), 1);
        due.same("through what is known", z.nets(-1), 1);
        DarkLamps y = Due.net("nm8c4;tb8;tc1b8;tc2b8;tc3b8");
        due.same("most NETS", y.nets(-1), 4096);
        due.same("most NETS", y.nets(4095), 7777);
        due.same("most NETS", y.tells(1), 512);
    }

    /* By COLOUR 0: 0 to 1 to 2 to 0; by COLOUR 1: to 3 and no further. */
    private static final String GAME = "nm4c2f1;tb1;ta1b2;ta2b0;tc1b3;ga1";

    private static void smuggles(Due due) {
        DarkLamps x = Due.net(GAME);
        due.same("not met", x.smuggles(0, 3, 0, 3), 3);
        due.same("met once", x.smuggles(0, 3, 0, 1), 2);
        due.same("met at the end", x.smuggles(0, 3, 0, 0), 2);
        due.same("not met at the start", x.smuggles(0, 2, 0, 0), 2);
        due.same("met always", x.smuggles(0, 9, 1, 3), 0);
        due.same("never met", x.smuggles(0, 9, 1, 2), 9);
        due.same("out of bounds", x.smuggles(0, 0, 1, 2), -1000000);
        due.same("out of bounds", x.smuggles(0, 10, 1, 2), -1000000);
        due.same("no COLOUR", x.smuggles(0, 1, 2, 2), -1000000);
        due.same("UNLIT", x.smuggles(0, 1, 5, 2), -1000000);
        due.same("no MOUTH", x.smuggles(4, 1, 1, 2), -1000000);
        due.same("no MOUTH", x.smuggles(0, 1, 1, 4), -1000000);
    }

    private static void rests(Due due) {
        DarkLamps x = Due.net(GAME);
        due.same("none rests", x.rests(0, 3, -1), 0);
        due.same("none rests", x.rests(0, 3, 0), -1);
        // From 1 by COLOUR 1 one stays; by COLOUR 0 one is met once in three at 2, 0, 1.
        due.same("rests", x.rests(1, 3, -1), 1);
        due.same("rests", x.rests(1, 3, 0), 1);
        due.same("rests", x.rests(1, 3, -2), -1);
        due.same("one COLOUR", Due.net("nm3c1;tb1").rests(0, 1, -1), 1);
        due.same("one COLOUR", Due.net("nm3c1;tb1").rests(0, 1, 0), 1);
        due.same("all COLOURS alike", Due.net("nm2c3").rests(1, 9, -1), 3);
        due.same("all COLOURS alike", Due.net("nm2c3").rests(1, 9, 0), 1);
        due.same("all COLOURS alike", Due.net("nm2c3").rests(1, 9, 2), 21);
        due.same("all COLOURS alike", Due.net("nm2c3").rests(1, 9, 3), -1);
        due.same("out of bounds", x.rests(0, 0, -1), -1);
        due.same("out of bounds", x.rests(0, 10, -1), -1);
        due.same("no MOUTH", x.rests(4, 1, -1), -1);
    }
}
