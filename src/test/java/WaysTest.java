/** Promises 19 to 25, 32 to 35, 40 and 41: where LAMPS lead, ways, what is seen. */
final class WaysTest {
    static void run(Due due) {
        rounds(due);
        changes(due);
        soonest(due);
        cheapest(due);
        reached(due);
        lamps(due);
        yards(due);
        unseen(due);
        posts(due);
        halves(due);
        loops(due);
    }

    /* By COLOUR 0: 0, 1, 2, 3, 4 and back to 2; by COLOUR 1: 0 to 5, not known from 5. */
    private static void rounds(Due due) {
        DarkLamps x = Due.net("nm6c2f1;tb1;ta1b2;ta2b3;ta3b4;ta4b2;tc1b5;ta5c1b8");
        due.same("comes", x.comes(0, 0, 0), 0);
        due.same("comes", x.comes(0, 0, 4), 4);
        due.same("comes", x.comes(0, 0, 5), 2);
        due.same("comes", x.comes(0, 0, 99), 3);
        due.same("comes by 1", x.comes(0, 1, 9), 5);
        due.same("comes UNLIT", x.comes(3, 5, 9), 3);
        due.same("comes out of bounds", x.comes(0, 0, 100), -1);
        due.same("comes out of bounds", x.comes(0, 0, -1), -1);
        due.same("comes by no COLOUR", x.comes(0, 2, 1), -1);
        due.same("comes from no MOUTH", x.comes(6, 0, 1), -1);
        due.same("round", x.round(0, 0, 0), 2);
        due.same("round, more", x.round(0, 0, 1), 3);
        due.same("round on it", x.round(3, 0, 0), 0);
        due.same("round to itself", x.round(0, 1, 0), 1);
        due.same("round to itself, more", x.round(0, 1, 1), 1);
        due.same("round UNLIT", x.round(0, 5, 0), 0);
        due.same("round UNLIT, more", x.round(0, 5, 1), 1);
        due.same("round of no what", x.round(0, 0, 2), -1);
        due.same("round of no what", x.round(0, 0, -1), -1);
        due.same("round by no COLOUR", x.round(0, 3, 0), -1);
        due.same("round from no MOUTH", x.round(-1, 0, 0), -1);
        DarkLamps y = Due.net("nm8c1;tb1;ta1b2;ta2b3;ta3b4;ta4b5;ta5b6;ta6b7;ta7b0");
        due.same("round of all", y.round(5, 0, 0), 0);
        due.same("round of all", y.round(5, 0, 1), 8);
        DarkLamps z = Due.net("nm8c1;tb1;ta1b2;ta2b3;ta3b4;ta4b5;ta5b6;ta6b7");
        due.same("a way of all", z.round(0, 0, 0), 7);
        due.same("a way of all", z.round(0, 0, 1), 1);
    }

    private static final String GRID = "nm6c3;tb1l9;ta1b2l9;tc1b3;ta3b4;ta4c1b2;ta2c2b5;tc2b0;ta3c2b8";

    private static void changes(Due due) {
        DarkLamps x = Due.net(GRID);
        due.same("by one LAMP", x.changes(0, 2, 7), 0);
        due.same("to itself", x.changes(0, 0, 1), 0);
        due.same("two LAMPS", x.changes(0, 5, 7), 1);
        due.same("another way", x.changes(3, 2, 3), 1);
        due.same("two changes", x.changes(3, 5, 7), 2);
        due.same("without COLOUR 0", x.changes(0, 2, 6), -1);
        due.same("never", x.changes(5, 0, 7), -1);
        due.same("no set", x.changes(0, 2, 0), -1);
        due.same("no set", x.changes(0, 2, 8), -1);
        due.same("no set", x.changes(0, 2, -1), -1);
        due.same("no MOUTH", x.changes(6, 0, 7), -1);
        due.same("no MOUTH", x.changes(0, 6, 7), -1);
        due.same("no MOUTH, to itself", x.changes(6, 6, 7), -1);
    }

    private static void soonest(Due due) {
        DarkLamps x = Due.net(GRID);
        due.same("HOURS", x.soonest(0, 2, 7, 0), 3);
        due.same("first", x.soonest(0, 2, 7, 1), 1);
        due.same("by COLOUR 0 alone", x.soonest(0, 2, 1, 0), 18);
        due.same("by COLOUR 0 alone", x.soonest(0, 2, 1, 1), 0);
        due.same("to itself", x.soonest(4, 4, 1, 0), 0);
        due.same("to itself, first", x.soonest(4, 4, 1, 1), -1);
        due.same("never", x.soonest(2, 0, 7, 0), -1);
        due.same("never, first", x.soonest(2, 0, 7, 1), -1);
        due.same("no what", x.soonest(0, 2, 7, 2), -1);
        due.same("no what", x.soonest(0, 2, 7, -1), -1);
        due.same("no set", x.soonest(0, 2, 8, 0), -1);
        due.same("no MOUTH", x.soonest(0, 6, 7, 0), -1);
        DarkLamps y = Due.net("nm3c3;tc2b1;tc1b1;tb2;ta2b1");
        due.same("of several the least first", y.soonest(0, 1, 7, 1), 1);
        due.same("a longer one is none", y.soonest(0, 1, 5, 1), 2);
        DarkLamps z = Due.net("nm3c3;tc2b1l2;tb2;ta2b1");
        due.same("alike in HOURS", z.soonest(0, 1, 7, 1), 0);
        DarkLamps v = Due.net("nm3c2;ta1b0;tb2;ta1c1b2l9;ga0");
        due.same("through MOUTH 0", v.soonest(1, 2, 3, 0), 2);
        due.same("through MOUTH 0, first", v.soonest(1, 2, 3, 1), 0);
        due.same("through MOUTH 0, unseen", v.unseen(1, 2), 9);
        due.same("LAMPS do not fade", Due.net("nm4c2f1;tc1b1;ta1c1b2;ta2c1b3").soonest(0, 3, 2, 0), 3);
    }

    private static void cheapest(Due due) {
        DarkLamps x = Due.net(GRID);
        due.same("by LENGTH", x.cheapest(0, 2, 7), 3);
        Due.rule(x, "y:c=0?0;y:50");
        due.same("by LAW", x.cheapest(0, 2, 7), 0);
        due.same("by LAW", x.cheapest(3, 2, 7), 50);
        due.same("by LAW", x.cheapest(0, 5, 7), 50);
        due.same("to itself", x.cheapest(5, 5, 7), 0);
        due.same("never", x.cheapest(2, 0, 7), -1);
        due.same("no set", x.cheapest(0, 2, 0), -1);
        due.same("no MOUTH", x.cheapest(-1, 2, 7), -1);
        Due.rule(x, "y:g*20+1");
        x.guard(4, true);
        due.same("by GUARDS", x.cheapest(0, 2, 7), 2);
        x.guard(1, true);
        x.guard(1, true);
        due.same("by GUARDS", x.cheapest(0, 2, 7), 23);
    }

    private static void reached(Due due) {
        DarkLamps x = Due.net(GRID);
        due.same("reached", x.reached(0, 7), 63);
        due.same("reached by 0", x.reached(0, 1), 7);
        due.same("reached by 1", x.reached(0, 2), 9);
        due.same("reached by 2", x.reached(0, 4), 1);
        due.same("reached from the end", x.reached(5, 7), 32);
        due.same("no set", x.reached(0, 0), -1);
        due.same("no set", x.reached(0, 8), -1);
        due.same("no MOUTH", x.reached(6, 1), -1);
    }

    private static void lamps(Due due) {
        due.same("one MOUTH", Due.net("nm1").lamps(), 0);
        due.same("not with all", Due.net("nm2;t").lamps(), -1);
        due.same("one COLOUR", Due.net("nm3c3;tc1b1;ta1c1b2;ta2c1b0").lamps(), 2);
        due.same("of several the least", Due.net("nm2c3;tc1b1;ta1c1b0;tc2b1;ta1c2b0").lamps(), 2);
        due.same("fewer ahead of less", Due.net("nm2c3;tc0b1;ta1c1b0;tc2b1;ta1c2b0").lamps(), 4);
        due.same("two COLOURS", Due.net("nm2c3;tb1;ta1c2b0").lamps(), 5);
        due.same("not known is none", Due.net("nm2c3;tb1;ta1b8").lamps(), -1);
    }

    /* A ring of three by COLOUR 1; by COLOUR 0 all lead to 3; a step down each 2 HOURS. */
    private static void yards(Due due) {
        DarkLamps x = Due.net("nm4c2f2;tc1b1;ta1c1b2l2;ta2c1b0;tb3;ta1b3;ta2b3l3");
        due.same("h 0", x.yards(2, 1, 0), 4);
        due.same("h 1", x.yards(1, 1, 1), 1);
        due.same("h 1", x.yards(0, 1, 1), 4);
        due.same("still in a DARK", x.yards(2, 1, 1), 0);
        due.same("h 2", x.yards(2, 1, 2), 2);
        due.same("h 2", x.yards(1, 1, 2), 4);
        due.same("h 3: faded", x.yards(3, 1, 3), 12);
        due.same("h 4: faded, UNLIT", x.yards(3, 1, 4), 12);
        due.same("h 5: faded and long", x.yards(3, 1, 5), 14);
        due.same("UNLIT from the start", x.yards(2, 5, 7), 4);
        due.same("out of bounds", x.yards(2, 1, 61), -1);
        due.same("out of bounds", x.yards(2, 1, -1), -1);
        due.same("no COLOUR", x.yards(2, 2, 1), -1);
        due.same("no MOUTH", x.yards(4, 1, 1), -1);
        DarkLamps y = Due.net("nm3c1;tb1;ta1b2;ta2b0");
        due.same("h 60 round and round", y.yards(1, 0, 60), 2);
        due.same("h 59 round and round", y.yards(1, 0, 59), 4);
    }

    /* From 0 to 3: by 1 in 2 HOURS, by 2 in 4, by 4 and 5 in 9. */
    private static final String MESH = "nm6c3;tb1;ta1b3;tc1b2l2;ta2b3l2;tc2b4l3;ta4b5l3;ta5b3l3";

    private static void unseen(Due due) {
        DarkLamps x = Due.net(MESH);
        due.same("unseen", x.unseen(0, 3), 2);
        x.guard(0, true);
        x.guard(3, true);
        due.same("GUARDS of both are none", x.unseen(0, 3), 2);
        x.guard(1, true);
        due.same("another way", x.unseen(0, 3), 4);
        due.same("to a GUARD", x.unseen(0, 1), 1);
        due.same("from a GUARD", x.unseen(1, 3), 1);
        x.guard(2, true);
        due.same("a third way", x.unseen(0, 3), 9);
        x.guard(5, true);
        due.same("never", x.unseen(0, 3), -1);
        due.same("to itself", x.unseen(5, 5), 0);
        due.same("no MOUTH", x.unseen(0, 6), -1);
        due.same("no MOUTH", x.unseen(-1, 0), -1);
        due.same("no way", x.unseen(3, 0), -1);
    }

    private static void posts(Due due) {
        DarkLamps x = Due.net(MESH);
        due.same("three ways", x.posts(0, 3), 2 + 4 + 16);
        x.guard(1, true);
        due.same("besides", x.posts(0, 3), 4 + 16);
        x.guard(5, true);
        due.same("besides", x.posts(0, 3), 4);
        x.guard(2, true);
        due.same("none is needed", x.posts(0, 3), 0);
        due.same("none is enough", x.posts(0, 2), -1);
        due.same("alike", x.posts(2, 2), -1);
        due.same("no MOUTH", x.posts(0, 6), -1);
        due.same("no MOUTH", x.posts(-1, 0), -1);
        DarkLamps y = Due.net("nm6c2;tb1;tc1b2;ta1b3;ta2b3;ta3b4");
        due.same("one for both ways", y.posts(0, 4), 8);
    }

    private static void halves(Due due) {
        DarkLamps x = Due.net("nm4c2;tb1;ta1b2;ta2b3;tc1b2;ta1c1b2l9");
        due.same("already", x.halves(2, 2, 1), 0);
        due.same("by COLOUR 0", x.halves(0, 1, 1), 3);
        due.same("by COLOUR 1", x.halves(0, 1, 2), 1);
        due.same("by both", x.halves(0, 3, 3), 2);
        due.same("never", x.halves(0, 3, 2), -1);
        due.same("no set", x.halves(0, 1, 0), -1);
        due.same("no set", x.halves(0, 1, 4), -1);
        due.same("no MOUTH", x.halves(0, 4, 1), -1);
        due.same("no MOUTH", x.halves(4, 4, 1), -1);
        DarkLamps y = Due.net("nm8c1;tb1;ta1b2;ta2b3;ta3b4;ta4b5;ta5b6;ta6b7;ta7b0");
        due.same("a ring keeps them apart", y.halves(0, 4, 1), -1);
    }

    private static void loops(Due due) {
        DarkLamps x = Due.net("nm3c3;tb1;tc1b0l3;tc2b8;ta1b2;ta1c1b2;ta1c2b2;ta2b1");
        due.same("loops", x.loops(0), 6);
        due.same("loops", x.loops(1), 0);
        due.same("loops", x.loops(2), 6);
        due.same("loops of no MOUTH", x.loops(3), -1);
        due.same("loops of no MOUTH", x.loops(-1), -1);
        due.same("safe", x.safe(), 2);
        x.show(2, 0, 2);
        due.same("safe to itself", x.safe(), 6);
        due.same("one COLOUR", Due.net("nm3c1;tb1").safe(), 7);
    }
}
