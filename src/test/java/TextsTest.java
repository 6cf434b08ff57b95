/** Promises 1 to 5 and 9: the TAPE, NETS and LAWS as texts, their FAULT. */
final class TextsTest {
    static void run(Due due) {
        newObject(due);
        tape(due);
        netFaults(due);
        netBounds(due);
        netUsual(due);
        netOrder(due);
        lawFaults(due);
        lawDepth(due);
        told(due);
        laws(due);
    }

    private static void newObject(Due due) {
        DarkLamps x = new DarkLamps();
        for (int what = 0; what <= 13; what++) {
            due.same("new count(" + what + ")", x.count(what), what == 6 ? -1 : 0);
        }
        due.same("count(14)", x.count(14), -1000000);
        due.same("count(-1)", x.count(-1), -1000000);
        due.same("no NET: dark", x.dark(0, 0, 0), -1);
        due.same("no NET: dark UNLIT", x.dark(0, 5, 0), -1);
        due.same("no NET: years", x.years(1, 1), -1);
        due.same("no NET: nets", x.nets(-1), -1);
        due.same("no NET: tells", x.tells(0), -1);
        due.same("no NET: safe", x.safe(), -1);
        due.same("no NET: visits", x.visits(0), -1);
        due.same("no NET: rests", x.rests(0, 1, -1), -1);
        due.same("no NET: smuggles", x.smuggles(0, 1, 0, 0), -1000000);
        due.same("no NET: fogs", x.fogs(7), true);
        due.same("no NET: law(-1)", x.law(-1), true);
    }

    private static void tape(Due due) {
        DarkLamps x = new DarkLamps();
        due.same("feed of 0", x.feed(0, 0, 0, 0, 0), 0);
        due.same("feed of -1", x.feed(-1, 0, 0, 0, 0), 4);
        due.same("feed leaves 0 out", x.feed(0x6e006d00, 0, 0x33, 0, 0), 7);
        due.same("first byte is the highest", x.end(4) && x.feed(0x6e, 0, 0, 0, 0) == 5, true);
        due.same("end(-1)", x.end(-1), false);
        due.same("end(6)", x.end(6), false);
        due.same("refused end changes nothing", x.count(5), 5);
        due.same("end(5)", x.end(5), true);
        due.same("end(0)", x.end(0), true);
        for (int i = 1; i <= 12; i++) {
            due.same("feed " + i, x.feed(-1, -1, -1, -1, -1), 20 * i);
        }
        due.same("feed of a 241st", x.feed(0, 0, 0, 0, 1), -1);
        due.same("feed of none more", x.feed(0, 0, 0, 0, 0), 240);
        due.same("end(239)", x.end(239), true);
        due.same("feed of two more", x.feed(1, 0, 0, 0, 1), -1);
        due.same("refused feed changes nothing", x.count(5), 239);
        due.same("feed of one more", x.feed(0, 0, 0, 0, 1), 240);
    }

    private static void netFault(Due due, DarkLamps x, String text, int want) {
        due.same("NET '" + text + "'", Due.faultOf(x, 0, text), want);
    }

    private static void netFaults(Due due) {
        DarkLamps x = new DarkLamps();
        due.same("no such sort", x.fault(2), -2);
        due.same("no such sort", x.fault(-1), -2);
        String[] good = {"n", "nm1", "nm08", "nm1c1h0f0", "nf9h23c5m8", "t", "g", "r", "rc5", "rc05h99d9", "tb8",
            "nm8;ta7b0c02l9", "ta0b0", " n m 2 ", "r;r;r;r;r;r", "g;g;g;g", "t;tc1;tc2",
            "tb7;nm8", "tb8;tc1b8;tc2b8;ta1b8"};
        for (String text : good) {
            netFault(due, x, text, -1);
        }
        netFault(due, x, "", 0);
        netFault(due, x, "   ", 3);
        netFault(due, x, "n;", 2);
        netFault(due, x, "n; ", 3);
        netFault(due, x, "nm", 2);
        netFault(due, x, "nm ;", 3);
        netFault(due, x, "n m1 2", 5);
        netFault(due, x, ";n", 0);
        netFault(due, x, "n;;t", 2);
        netFault(due, x, "nb1", 1);
        netFault(due, x, "gb1", 1);
        netFault(due, x, "tm1", 1);
        netFault(due, x, "N", 0);
        netFault(due, x, "n\u00ff", 1);
        netFault(due, x, "n\t", 1);
    }

    /* Every letter at its least and its most, and one beyond. */
    private static void netBounds(Due due) {
        DarkLamps x = new DarkLamps();
        String[] letters = {"nm1-8", "nc1-5", "nh0-23", "nf0-9", "ta0-7", "tc0-4", "tb0-8", "tl1-9", "ra0-7", "rc0-5",
            "rh0-99", "rd0-9", "ga0-7"};
        for (String bounds : letters) {
            String letter = bounds.substring(0, 2);
            int least = bounds.charAt(2) - '0';
            int most = Integer.parseInt(bounds.substring(4));
            String wide = letter.charAt(0) == 'n' ? "" : "nm8c5;";
            String rest = letter.equals("nm") ? "c1" : "";
            netFault(due, x, wide + letter + least + rest, -1);
            netFault(due, x, wide + letter + most, -1);
            String above = wide + letter + (most + 1);
            netFault(due, x, above, above.length() - 1);
            if (least == 1) {
                netFault(due, x, wide + letter + "0", wide.length() + 2);
            }
        }
    }

    private static void netUsual(Due due) {
        DarkLamps x = Due.net("t;r;g");
        int[] counts = {4, 3, 1, 1};
        for (int what = 0; what < counts.length; what++) {
            due.same("as usual, count(" + what + ")", x.count(what), counts[what]);
        }
        due.same("as usual, b", x.dark(0, 0, 0), 1);
        due.same("as usual, l", x.dark(0, 0, 1), 1);
        due.same("as usual, GUARD", x.guards(0), 1);
        due.same("as usual, MOUTH and COLOUR", x.train(0, 0) * 10 + x.train(0, 1), 0);
        due.same("as usual, DARKS", x.train(0, 2), 3);
        due.same("as usual, starts now, fades never", x.go(40) == 40 && x.train(0, 0) == 1 && x.train(0, 1) == 0, true);
    }

    private static void netOrder(Due due) {
        DarkLamps x = new DarkLamps();
        netFault(due, x, "nm9", 2);
        netFault(due, x, "nm09", 3);
        netFault(due, x, "nm99", 3);
        netFault(due, x, "nm999", 4);
        netFault(due, x, "nm0", 2);
        netFault(due, x, "nm00", 3);
        netFault(due, x, "nm001", 4);
        netFault(due, x, "nh24", 3);
        netFault(due, x, "rd10", 3);
        netFault(due, x, "tl10", 3);
        netFault(due, x, "rh099", 4);
        netFault(due, x, "nm2m99", 3);
        netFault(due, x, "nm9m2", 2);
        netFault(due, x, "n;t;n", 4);
        netFault(due, x, "t;t;nm9", 6);
        netFault(due, x, "t;t", 3);
        netFault(due, x, "t ; t ", 6);
        netFault(due, x, "ta4", 3);
        netFault(due, x, "ta4;nm5", -1);
        netFault(due, x, "nc1;tc1", 7);
        netFault(due, x, "nc1;rc1", 7);
        netFault(due, x, "nc1;rc5", -1);
        netFault(due, x, "nm2;ga2", 7);
        netFault(due, x, "nm2;ra2", 7);
        netFault(due, x, "nm1;tb8", -1);
        netFault(due, x, "nm1;t", 5);
        netFault(due, x, "tb8;tc1b8;tc2b8;ta1b8;ta2b8", 27);
        netFault(due, x, "g;g;g;g;g", 8);
        netFault(due, x, "r;r;r;r;r;r;r", 12);
        netFault(due, x, "t;".repeat(17) + "t", 35);
        netFault(due, x, "t;".repeat(18) + "t", 36);
    }

    private static void lawFault(Due due, DarkLamps x, String text, int want) {
        due.same("LAW '" + text + "'", Due.faultOf(x, 1, text), want);
    }

    private static void lawFaults(Due due) {
        DarkLamps x = new DarkLamps();
        String[] good = {"y:1", "y:9999", "y:0000", "y:c+l-a*b/g", "y:[1]", "y:a=1?2", "y:!a=1?2;y:3", "y:(a=1|b>2&c<3)?[4]",
            " y : a = 1 & ! ( b < 2 ) ? 3 - 4 ", "y:1;y:2", "y:[a+1]*2>b?1", "y:!!a=b|!(c=1)?g"};
        for (String text : good) {
            lawFault(due, x, text, -1);
        }
        lawFault(due, x, "", 0);
        lawFault(due, x, "y", 1);
        lawFault(due, x, "y:", 2);
        lawFault(due, x, "n", 0);
        lawFault(due, x, "y:d", 2);
        lawFault(due, x, "y:12345", 6);
        lawFault(due, x, "y:1 2", 4);
        lawFault(due, x, "y:-1", 2);
        lawFault(due, x, "y:1?2", 3);
        lawFault(due, x, "y:1&", 3);
        lawFault(due, x, "y:a=1", 5);
        lawFault(due, x, "y:a=1;", 5);
        lawFault(due, x, "y:a=1?", 6);
        lawFault(due, x, "y:a=b=c?1", 5);
        lawFault(due, x, "y:a=1?b=2", 7);
        lawFault(due, x, "y:(a)?1", 4);
        lawFault(due, x, "y:(a+1)=2?1", 6);
        lawFault(due, x, "y:(a=1)=2?1", 7);
        lawFault(due, x, "y:(a=1);y:1", 7);
        lawFault(due, x, "y:(a=1)", 7);
        lawFault(due, x, "y:!1+2?3", 6);
        lawFault(due, x, "y:a=(1)?3", 4);
        lawFault(due, x, "y:a=1|2?3", 7);
        lawFault(due, x, "y:[a=1]?3", 4);
        lawFault(due, x, "y:[a", 4);
        lawFault(due, x, "y:1;", 4);
        lawFault(due, x, "y:1 ;z", 5);
        lawFault(due, x, "y:1+", 4);
        lawFault(due, x, "y:1]", 3);
        lawFault(due, x, "y:1 y:2", 4);
    }

    private static void lawDepth(Due due) {
        DarkLamps x = new DarkLamps();
        lawFault(due, x, "y:[[[[[[1]]]]]]", -1);
        lawFault(due, x, "y:[[[[[[[1]]]]]]]", 8);
        lawFault(due, x, "y:!!!!!!a=1?1", -1);
        lawFault(due, x, "y:!!!!!!!a=1?1", 8);
        lawFault(due, x, "y:!!!!!![a]=1?1", 8);
        lawFault(due, x, "y:((((((a=1))))))?1", -1);
        lawFault(due, x, "y:(((((((a=1", 8);
        lawFault(due, x, "y:!(!(!([a]=1)))?1", 8);
        lawFault(due, x, "y:!!!a=1&!!!!a=1|!!!!!!a=1?[[[1]]]", -1);
        lawFault(due, x, "y:[[[1]]]+[[[[[[2]]]]]]", -1);
        lawFault(due, x, "y:a=1?[[[[[[1]]]]]];y:[[[[[[[", 28);
        lawFault(due, x, "y:a=[[[[[[1]]]]]]&((((((a=1))))))|!!!!!!a=1?1", -1);
        lawFault(due, x, "y:a=[[[[[[[", 10);
        lawFault(due, x, "y:a=1&(((((((", 12);
        lawFault(due, x, "y:a=1|(((((((", 12);
    }

    private static void told(Due due) {
        DarkLamps x = new DarkLamps();
        due.same("text of no such sort", x.text(2), -1);
        due.same("text of nothing", x.text(0), -1);
        Due.feed(x, "nm5c2h7;t;rc1;ga3;ga3");
        due.same("text as a LAW", x.text(1), -1);
        due.same("text refused keeps the TAPE", x.count(5), 21);
        due.same("text", x.text(0), 5);
        due.same("TAPE is empty then", x.count(5), 0);
        due.same("MOUTHS", x.count(0), 5);
        due.same("COLOURS", x.count(1), 2);
        due.same("TRAINS", x.count(2), 1);
        due.same("GUARDS", x.count(3), 2);
        due.same("HOUR", x.count(7), 7);
        x.go(3);
        x.lay(0, 0, 1, 1);
        x.image();
        x.fogs(12);
        Due.rule(x, "y:9");
        Due.feed(x, "nm3m");
        due.same("a FAULT", x.text(0), -1);
        due.same("a FAULT changes nothing", x.count(0), 5);
        due.same("a FAULT keeps ACTS", x.count(13), 3);
        Due.feed(x, "n");
        due.same("another NET", x.text(0), 4);
        int[] counts = {4, 3, 0, 0, 1, 0, 0, 0, 0, 12, 0, 0, 0, 0};
        for (int what = 0; what < counts.length; what++) {
            due.same("another NET, count(" + what + ")", x.count(what), counts[what]);
        }
        due.same("another NET: no IMAGE", x.back(), -1);
        due.same("another NET: no TUNNEL", x.dark(0, 0, 0), 0);
        due.same("another NET: the LAW holds", x.dark(0, 0, 2), 9);
    }

    private static void laws(Due due) {
        DarkLamps x = Due.net("nm4c2;ta1b2l3;ta2c1b8l7;ga2");
        due.same("law(0) of none", x.law(0), false);
        for (int law = 0; law < 4; law++) {
            Due.feed(x, "y:" + law + "0+l");
            due.same("LAW", x.text(1), law);
        }
        Due.feed(x, "y:1");
        due.same("a fifth LAW", x.text(1), -1);
        due.same("a fifth LAW's FAULT", x.fault(1), -1);
        due.same("a fifth LAW stays on the TAPE", x.count(5), 3);
        due.same("LAWS", x.count(4), 4);
        due.same("none holds", x.count(6), -1);
        due.same("PRICE by none", x.dark(1, 0, 2), 3);
        due.same("law(2)", x.law(2), true);
        due.same("PRICE by LAW 2", x.dark(1, 0, 2), 23);
        x.law(3);
        due.same("PRICE by LAW 3", x.dark(1, 0, 2), 33);
        x.law(0);
        due.same("PRICE by LAW 0", x.dark(1, 0, 2), 3);
        x.law(2);
        due.same("law(4)", x.law(4), false);
        due.same("law(-2)", x.law(-2), false);
        due.same("holds", x.count(6), 2);
        due.same("law(-1)", x.law(-1), true);
        due.same("none holds", x.dark(1, 0, 2), 3);
    }
}
