import java.util.Arrays;
import java.util.List;

/** Terms 1: how many CLAUSES and digits, which MOUTHS and COLOURS, how deep, how large: the last taken, the first refused. */
final class TextBoundsTest {
    private static final String[] LETTERS = {"nm", "nc", "nh", "nf", "ta", "tc", "tb", "tl", "ra", "rc", "rh", "rd", "ga"};

    static void run(Due due) {
        tape(due);
        clauses(due);
        anyOrder(due);
        lettersOnce(due);
        digits(due);
        ofTheNet(due);
        twoAndUnknown(due);
        blanks(due);
        otherSigns(due);
        fullTape(due);
        lawDigits(due);
        lawDepth(due);
        lawBlanks(due);
        lawEndsEarly(due);
        numbersWithin(due);
        cuts(due);
        prices(due);
        told(due);
        toldFewer(due);
        toldLaw(due);
    }

    private static void net(Due due, String text, int want) {
        due.same("NET '" + text + "'", Due.faultOf(new DarkLamps(), 0, text), want);
    }

    private static void law(Due due, String text, int want) {
        due.same("LAW '" + text + "'", Due.faultOf(new DarkLamps(), 1, text), want);
    }

    /* ---- the TAPE: 0 to 240 bytes, 1 to 255 each ---- */

    private static void tape(Due due) {
        DarkLamps x = new DarkLamps();
        due.same("end(0) of none", x.end(0), true);
        due.same("end(1) of none", x.end(1), false);
        due.same("zeros between are left out", x.feed('n' << 16, 'm' << 8, '7' << 24, 0, 0), 3);
        due.same("... and the others stand in their order", x.fault(0) == -1 && x.text(0) == 7, true);
        due.same("highest first", x.feed(0x6e6d3863, 0x33000000, 0, 0, 0) == 5 && x.text(0) == 8, true);
        due.same("the last number's last byte", x.feed('n', 0, 0, 0, 'm') == 2 && x.fault(0) == 2, true);
        due.same("behind what is there", x.feed('2', 0, 0, 0, 0) == 3 && x.text(0) == 2, true);
        for (int i = 1; i <= 240; i++) {
            due.same("a byte", x.feed(0, 0, i << 8, 0, 0), i);
        }
        due.same("a 241st byte", x.feed(0, 0, 1, 0, 0), -1);
        due.same("cut to all", x.end(240) && x.count(5) == 240, true);
        due.same("cut to more", x.end(241) || x.count(5) != 240, false);
        due.same("cut by one", x.end(239) && x.count(5) == 239, true);
        due.same("two more", x.feed(0x0101, 0, 0, 0, 0), -1);
        for (int i = 0; i < 5; i++) {
            int[] a = new int[5];
            a[i] = 0x01000001;
            due.same("two more in number " + i, x.feed(a[0], a[1], a[2], a[3], a[4]), -1);
            a[(i + 1) % 5] = -1;
            due.same("six more in two numbers", x.feed(a[0], a[1], a[2], a[3], a[4]), -1);
        }
        due.same("one more", x.feed(0x0100, 0, 0, 0, 0), 240);
        due.same("cut to the first", x.end(1) && x.count(5) == 1, true);
        due.same("cut to none", x.end(0) && x.count(5) == 0, true);
        DarkLamps y = new DarkLamps();
        Due.feed(y, "nm5c2");
        y.end(3);
        due.same("the first bytes are kept", y.text(0) == 5 && y.count(1) == 3, true);
        y.feed(0x80ff0000, 0, 0, 0, 0);
        due.same("bytes above 127 are bytes", y.count(5) == 2 && y.fault(0) == 0, true);
    }

    /* ---- how many CLAUSES of a kind ---- */

    private static String tunnels(int many) {
        StringBuilder text = new StringBuilder("nm8c5");
        for (int i = 0; i < many; i++) {
            text.append(";ta").append(i % 8).append("c").append(i / 8).append("b").append((i + 3) % 8);
        }
        return text.toString();
    }

    private static void clauses(Due due) {
        DarkLamps x = Due.net(tunnels(18));
        due.same("18 TUNNELS", x.count(0), 8);
        for (int i = 0; i < 40; i++) {
            due.same("TUNNEL " + i, x.dark(i % 8, i / 8, 0), i < 18 ? (i + 3) % 8 : i % 8);
        }
        net(due, tunnels(19), tunnels(18).length() + 1);
        net(due, tunnels(18) + " ; t", tunnels(18).length() + 3);
        DarkLamps y = Due.net("n;ra0;ra1;ra2;ra3;ra2;ra1;ga0;ga0;ga3;ga2");
        due.same("six TRAINS", y.count(2), 6);
        due.same("four GUARDS", y.count(3), 4);
        int[] mouths = {0, 1, 2, 3, 2, 1};
        int[] guards = {2, 0, 1, 1};
        for (int train = 0; train < 6; train++) {
            due.same("TRAIN " + train, Answers.train(y, train, 0), mouths[train]);
        }
        for (int mouth = 0; mouth < 4; mouth++) {
            due.same("GUARDS at " + mouth, y.guards(mouth), guards[mouth]);
        }
        net(due, "ra9;ra0;ra0;ra0;ra0;ra0;ra0", 2);
        net(due, "r;r;r;r;r;r;ra9", 12);
        net(due, "g;g;g;g;ga9", 8);
        net(due, "n;nm9", 2);
        DarkLamps z = Due.net("n");
        due.same("none of TUNNELS, TRAINS, GUARDS", z.count(2) + z.count(3) + z.dark(0, 0, 0), 0);
        due.same("no n", Due.net("g").count(0) * 10 + Due.net("g").count(1), 43);
    }

    private static void anyOrder(Due due) {
        DarkLamps x = Due.net("ga4;rd7c1h3a5;tl9b2c1a6;nh4f2c2m7");
        due.same("n at the end", x.count(0) == 7 && x.count(1) == 2 && x.count(7) == 4, true);
        due.same("items in any order", x.dark(6, 1, 0) == 2 && x.dark(6, 1, 1) == 9, true);
        due.same("items in any order, TRAIN", Answers.train(x, 0, 0) == 5 && Answers.train(x, 0, 2) == 7, true);
        due.same("items in any order, LAMP", Answers.train(x, 0, 1), 1);
        due.same("GUARD ahead of n", x.guards(4), 1);
    }

    /* ---- ITEMS ---- */

    private static void lettersOnce(Due due) {
        for (String one : LETTERS) {
            String item = one.substring(1) + "1";
            net(due, one.charAt(0) + item + item, 3);
            net(due, one.charAt(0) + item + " " + one.charAt(1), 4);
            net(due, one.charAt(0) + "x", 1);
        }
        net(due, "nm1c1m1", 5);
        net(due, "nf1m1c1h1f1", 9);
        net(due, "ta1b1a1", 5);
        net(due, "tl1b1c1a1l1", 9);
        net(due, "rd1a1d1", 5);
        net(due, "rh1c1a1d1h1", 9);
        String[] sets = {"nabldg", "tmhfdg", "rmfblg", "gmchfbld"};
        for (String set : sets) {
            for (int i = 1; i < set.length(); i++) {
                net(due, set.charAt(0) + "" + set.charAt(i) + "1", 1);
            }
        }
        net(due, "ta1b2;ta2b1;ra1;ra1;ga1;ga1", -1);
        net(due, "nm4c3h0f0;ta0c0b1l1;ra0c0h0d3;ga0", -1);
    }

    private static void digits(Due due) {
        for (String one : LETTERS) {
            net(due, one, 2);
            net(due, one + ";", 2);
            net(due, one + "x", 2);
            net(due, one + "  ;", 4);
            net(due, one + "-1", 2);
            for (String number : new String[] {"000", "001", "010", "100", "999"}) {
                net(due, one + number, 4);
                net(due, one + number + "9", 4);
            }
            net(due, one + "1 1", 4);
        }
        String[] least = {"nm01", "nc01", "nh00", "nf00", "ta00", "tc00", "tb00", "tl01", "ra00", "rc00", "rh00", "rd00", "ga00"};
        String[] most = {"nm08", "nc05", "nh23", "nf09", "ta07", "tc04", "tb08", "tl09", "ra07", "rc05", "rh99", "rd09", "ga07"};
        for (int i = 0; i < LETTERS.length; i++) {
            String wide = i < 4 ? "" : "nm8c5;";
            net(due, wide + least[i] + (i == 0 ? ";tb0" : ""), -1);
            net(due, wide + most[i], -1);
            int above = Integer.parseInt(most[i].substring(2)) + 1;
            net(due, LETTERS[i] + (above < 10 ? "0" : "") + above, above > 99 ? 4 : 3);
            if (least[i].endsWith("1")) {
                net(due, LETTERS[i] + "0", 2);
                net(due, LETTERS[i] + "00", 3);
            }
        }
    }

    /* ---- MOUTHS and COLOURS of the NET: the FAULT is the length ---- */

    private static void ofTheNet(Due due) {
        for (int m = 1; m <= 8; m++) {
            for (String one : new String[] {"ta%db0", "tb%d", "ra%d", "ga%d"}) {
                String good = "nm" + m + ";" + one.formatted(m - 1);
                net(due, good, -1);
                String bad = one.formatted(m) + ";nm" + m + " ";
                boolean isMouth = m < 8;
                boolean isUnknown = m == 8 && one.startsWith("tb");
                net(due, bad, isMouth ? bad.length() : isUnknown ? -1 : 2);
            }
            net(due, "nm" + m + ";tb8", -1);
        }
        for (int c = 1; c <= 5; c++) {
            net(due, "nc" + c + ";tc" + (c - 1), -1);
            net(due, "nc" + c + ";rc" + (c - 1), -1);
            net(due, "nc" + c + ";rc5", -1);
            String tunnel = "nc" + c + ";tc" + c;
            net(due, tunnel, c < 5 ? tunnel.length() : tunnel.length() - 1);
            String train = "rc" + c + " ;nc" + c + "; g";
            net(due, train, c < 5 ? train.length() : -1);
        }
        net(due, "ra4", 3);
        net(due, "rc3", 3);
        net(due, "tc3", 3);
        net(due, "ga4;r;t", 7);
        net(due, "nm1;t", 5);
        net(due, "nm1;r;g", -1);
    }

    private static void twoAndUnknown(Due due) {
        net(due, "ta1b0;t;ta1b2", 13);
        net(due, "ta1b0;t;ta1c1b2", -1);
        net(due, "ta1c2b8;ta1c2", 13);
        net(due, "tb8;tc1b8;tc2b8;ta1b8", -1);
        net(due, "tb8;tc1b8;tc2b8;ta1b8;ta2b8 ", 28);
        net(due, "tb8;tc1b8;tc2b8;ta1b8;ta2b8;", 28);
        net(due, "tb8;tc1b8;tc2b8;ta1b8;ta2b8;x", 28);
        net(due, "tb8;tc1b8;tc2b8;ta1b8;ta2b3;ta3b0", -1);
    }

    /* ---- blanks between all signs, not within numbers ---- */

    private static final String WHOLE = "n|m|8|c|5|h|23|f|9|;|t|a|7|c|4|b|8|l|9|;|r|a|7|c|5|h|99|d|9|;|g|a|7";

    private static void blanks(Due due) {
        net(due, WHOLE.replace("|", ""), -1);
        net(due, WHOLE.replace("|", " "), -1);
        net(due, "   " + WHOLE.replace("|", "  ") + "   ", -1);
        String[] signs = WHOLE.split("\\|");
        for (int i = 0; i <= signs.length; i++) {
            StringBuilder text = new StringBuilder();
            for (int j = 0; j < signs.length; j++) {
                text.append(i == j ? " " : "").append(signs[j]);
            }
            net(due, text + (i == signs.length ? " " : ""), -1);
        }
        net(due, "nh2 3", 4);
        net(due, "nh 2 3", 5);
        net(due, "rh9 9", 4);
        net(due, "n  x", 3);
        net(due, "n m 9", 4);
        net(due, "n m 9 9", 4);
        net(due, "  ", 2);
        net(due, " ; ", 1);
    }

    private static void otherSigns(Due due) {
        for (int sign = 1; sign < 256; sign++) {
            char c = (char) sign;
            net(due, "" + c, c == ' ' ? 1 : "ntrg".indexOf(c) >= 0 ? -1 : 0);
            boolean item = "mchf".indexOf(c) >= 0;
            net(due, "n" + c, c == ' ' ? -1 : item || c == ';' ? 2 : 1);
            boolean digit = c >= '1' && c <= '8';
            net(due, "nm" + c, digit ? -1 : c == ' ' ? 3 : 2);
            boolean lawLetter = "clabg".indexOf(c) >= 0 || c >= '0' && c <= '9';
            boolean opens = "[(! ".indexOf(c) >= 0;
            law(due, "y:" + c, lawLetter ? -1 : opens ? 3 : 2);
            boolean goesOn = "+-*/=<>; ".indexOf(c) >= 0;
            law(due, "y:a" + c, c == ' ' ? -1 : goesOn ? 4 : 3);
            law(due, "y:a=1" + c, c >= '0' && c <= '9' || "+-*/&|?; ".indexOf(c) >= 0 && c != ';' ? 6 : 5);
        }
    }

    private static void fullTape(Due due) {
        DarkLamps x = Due.net("nm5" + " ".repeat(237));
        due.same("a NET of 240 bytes", x.count(0), 5);
        net(due, " ".repeat(240), 240);
        net(due, " ".repeat(239) + "n", -1);
        net(due, " ".repeat(239) + "x", 239);
        net(due, "n" + " ".repeat(238) + "m", 240);
        law(due, "y:1" + " ".repeat(237), -1);
        law(due, "y:1".concat(";y:2".repeat(59)) + " ", -1);
        law(due, "y:[".concat("1+".repeat(118)) + "1", 240);
        DarkLamps y = Due.net("n");
        Due.rule(y, "y:1".concat("+1".repeat(97)) + ";y:1".repeat(10));
        due.same("a LAW of 98 numbers", y.dark(0, 0, 2), 98);
        DarkLamps z = Due.net("n");
        Due.rule(z, "y:a>8?1;".repeat(29) + "y:7  ");
        due.same("the thirtieth CLAUSE", z.dark(0, 0, 2), 7);
    }

    /* ---- LAWS ---- */

    private static void lawDigits(Due due) {
        for (String number : new String[] {"0", "9", "00", "99", "000", "999", "0000", "9999"}) {
            law(due, "y:" + number, -1);
            law(due, "y:a=" + number + "?" + number, -1);
        }
        for (String number : new String[] {"00000", "00001", "10000", "99999", "123456"}) {
            law(due, "y:" + number, 6);
            law(due, "y: " + number, 7);
            law(due, "y:a+" + number, 8);
            law(due, "y:a=" + number, 8);
            law(due, "y:a=1?" + number, 10);
            law(due, "y:[" + number, 7);
        }
        law(due, "y:1234 5", 7);
        law(due, "y:1 2", 4);
    }

    /** All ways to open seven: ( and ! at first, then [ alone, as a SUM has neither of them. */
    private static void lawDepth(Due due) {
        for (int outer = 0; outer <= 7; outer++) {
            for (int bits = 0; bits < 1 << outer; bits++) {
                StringBuilder open = new StringBuilder();
                StringBuilder close = new StringBuilder();
                for (int i = 0; i < outer; i++) {
                    boolean round = (bits >> i & 1) == 1;
                    open.append(round ? "(" : "!");
                    close.insert(0, round ? ")" : "");
                }
                String tail = outer > 0 ? "=1" + close + "?1" : "";
                int seven = 7 - outer;
                law(due, "y:" + open + "[".repeat(seven) + "a" + "]".repeat(seven) + tail, 8);
                if (seven > 0) {
                    law(due, "y:" + open + "[".repeat(seven - 1) + "a" + "]".repeat(seven - 1) + tail, -1);
                    law(due, "y:" + open + "[".repeat(seven - 1), 2 + 6);
                }
            }
        }
        law(due, "y:[[[[[[1+[2]", 10);
        law(due, "y:[[[[[[1]+[2]]]]]]", -1);
        law(due, "y:a=1?[[[[[[[", 12);
        law(due, "y:a=[[[[[[[", 10);
        law(due, "y:1;y:[[[[[[[", 12);
        law(due, "y:!a=1&!!!!!!!a", 13);
        law(due, "y:!a=1&!!!!!!a=1?1", -1);
        law(due, "y:(a=1)|((((((a=1))))))?1", -1);
        law(due, "y:!(a=1)&!(!(!([1]=1)))?1", 15);
    }

    private static void lawBlanks(Due due) {
        String[] signs = "y : ! ( a = 1 & b < 22 ) | c > [ 333 + l ] ? 4444 * g - 5 / 6 ; y : 7".split(" ");
        for (int i = -1; i <= signs.length; i++) {
            StringBuilder text = new StringBuilder();
            for (int j = 0; j < signs.length; j++) {
                text.append(i == j || i == -1 ? " " : "").append(signs[j]);
            }
            law(due, text + (i == signs.length ? " " : ""), -1);
        }
    }

    /** Each beginning of a LAW that ends too early has its FAULT at its length. */
    private static void lawEndsEarly(Due due) {
        String whole = "y:!(a=1&[b+2]<c|g>l)?[1*2-3]/4;y:a=2?5;y:6";
        String ended = "y:!(a=1&[b+2]<c|g>l)?[1*2-3],y:!(a=1&[b+2]<c|g>l)?[1*2-3]/4,y:!(a=1&[b+2]<c|g>l)?[1*2-3]/4;y:a,"
            + "y:!(a=1&[b+2]<c|g>l)?[1*2-3]/4;y:a=2?5,y:!(a=1&[b+2]<c|g>l)?[1*2-3]/4;y:a=2?5;y:6";
        List<String> all = Arrays.asList(ended.split(","));
        for (int n = 0; n <= whole.length(); n++) {
            String text = whole.substring(0, n);
            law(due, text, all.contains(text) ? -1 : n);
        }
    }

    private static void price(Due due, String law, int want) {
        DarkLamps x = Due.net("nm4c2;ta1b2l9;ga2;ga2");
        Due.rule(x, law);
        due.same("PRICE by " + law, x.dark(1, 0, 2), want);
    }

    /** Behind each sign within -1,000,000 .. 1,000,000, told by what is left of it: 1,000,000 - 999,900 - 50. */
    private static void numbersWithin(Due due) {
        String less = "-9999*100-50";
        String more = "+9999*100+150";
        price(due, "y:1000*1000" + less, 50);
        price(due, "y:[1000*1000+1]" + less, 50);
        price(due, "y:1000*1000+9999" + less, 50);
        price(due, "y:1000*1001" + less, 50);
        price(due, "y:9999*9999" + less, 50);
        price(due, "y:1000*1000-1" + less, 49);
        price(due, "y:999*1001" + less, 49);
        price(due, "y:[0-1000]*1000" + more, 50);
        price(due, "y:[0-1000]*1000-1" + more, 50);
        price(due, "y:[0-1000]*1001" + more, 50);
        price(due, "y:[0-9999]*9999" + more, 50);
        price(due, "y:[0-1000]*1000+1" + more, 51);
        price(due, "y:[0-999]*1001" + more, 51);
        price(due, "y:9999*9999/9999-50", 50);
        price(due, "y:9999*9999*9999*9999/9999-50", 50);
        price(due, "y:[0-9999]*9999*9999/9999+150", 50);
        price(due, "y:9999*9999+1=1000*1000?7;y:8", 7);
        price(due, "y:1000*1000-1=1000*1000?7;y:8", 8);
    }

    private static void cuts(Due due) {
        price(due, "y:7/2", 3);
        price(due, "y:[0-7]/2+10", 7);
        price(due, "y:7/[0-2]+10", 7);
        price(due, "y:[0-7]/[0-2]", 3);
        price(due, "y:1/2", 0);
        price(due, "y:[0-1]/2+5", 5);
        price(due, "y:0/5", 0);
        price(due, "y:5/0", 0);
        price(due, "y:0/0", 0);
        price(due, "y:[0-5]/[a-1]+3", 3);
        price(due, "y:5/[a-1]*0+9", 9);
    }

    private static void prices(Due due) {
        price(due, "y:0", 0);
        price(due, "y:1", 1);
        price(due, "y:98", 98);
        price(due, "y:99", 99);
        price(due, "y:100", 99);
        price(due, "y:9999", 99);
        price(due, "y:0-1", 0);
        price(due, "y:0-9999", 0);
        price(due, "y:a=2?5", 0);
        price(due, "y:a=2?5;y:b=2?6", 6);
        price(due, "y:a=1?0-3;y:6", 0);
        price(due, "y:a>0?4;y:a>0?5", 4);
        price(due, "y:a<1?4;y:a>1?5;y:a=1?6;y:7", 6);
        for (String truth : new String[] {"a=1", "a<2", "a>0", "2>a", "0<a", "(a=1)", "!a=0", "!a<1", "!a>1", "!!a<2"}) {
            for (String other : new String[] {"b=2", "b<3", "b>1", "!b<2", "!b>2", "(b>1)"}) {
                price(due, "y:" + truth + "?5;y:6", 5);
                price(due, "y:!" + truth + "?5;y:6", 6);
                price(due, "y:" + truth + "&" + other + "?5;y:6", 5);
                price(due, "y:" + truth + "&!" + other + "?5;y:6", 6);
                price(due, "y:!" + truth + "|" + other + "?5;y:6", 5);
                price(due, "y:!(" + truth + "&" + other + ")?5;y:6", 6);
                price(due, "y:!(" + truth + "|" + other + ")?5;y:6", 6);
            }
        }
        price(due, "y:a=a|b=b&a=b?5;y:6", 5);
        price(due, "y:a=b&a=b|b=b?5;y:6", 5);
        price(due, "y:a=b|a=b&b=b|a>b?5;y:6", 6);
        DarkLamps x = Due.net("nm4c2;ta1b2l9;ta2b8l9");
        due.same("by none: LENGTH", x.dark(1, 0, 2), 9);
        due.same("by none, without a TUNNEL", x.dark(1, 1, 2), 1);
        due.same("by none, not known", x.dark(2, 0, 2), 1);
        due.same("by none, UNLIT", x.dark(1, 5, 2), 1);
        Due.rule(x, "y:c*9+l");
        due.same("UNLIT is COLOUR 5", x.dark(1, 5, 2), 46);
        due.same("not known is 1 HOUR", x.dark(2, 0, 2), 1);
    }

    /* ---- text: what of another NET is gone, what is not ---- */

    private static void told(Due due) {
        DarkLamps x = Due.net("nm8c5h23f9;tb8;tc1b7l9;tc2b1l9;rc2;rc5h99d9;rd9;rd9;ga7;ga0");
        due.same("HOUR 23", x.count(7), 23);
        Due.rule(x, "y:3");
        x.fogs(99);
        x.go(50);
        x.lamp(0, 2);
        x.guard(4, true);
        x.sent(0, 2, 3);
        x.go(1);
        due.same("MEETINGS and one in a DARK", x.count(8) > 0 && x.astray() > 0, true);
        x.lay(0, 0, 1, 1);
        x.show(3, 3, 4);
        x.image();
        Due.feed(x, "nm1c1");
        due.same("text", x.text(0), 1);
        int[] counts = {1, 1, 0, 0, 1, 0, 0, 0, 0, 99, 0, 0, 0, 0};
        for (int what = 0; what < counts.length; what++) {
            due.same("another NET, count(" + what + ")", x.count(what), counts[what]);
        }
        due.same("another NET: undo", x.undo(), -1);
        due.same("another NET: back", x.back(), -1);
        due.same("another NET: log", x.log(0, 0), -1);
        due.same("another NET: nets", x.nets(-1), 1);
        due.same("another NET: nets", x.nets(0), 0);
        Due.feed(x, "nm8c5;r;r;r;r;r;r");
        x.text(0);
        due.same("another NET: no TRAIN is in a DARK", x.astray(), 0);
        for (int train = 0; train < 6; train++) {
            due.same("another NET: a TRAIN anew", Answers.train(x, train, 3) + x.due(train), 0);
        }
        for (int mouth = 0; mouth < 8; mouth++) {
            due.same("another NET: visits", x.visits(mouth), 0);
        }
        for (int dark = 0; dark < 40; dark++) {
            due.same("another NET: no TUNNEL", x.dark(dark / 5, dark % 5, 0), dark / 5);
            due.same("another NET: no LENGTH", x.dark(dark / 5, dark % 5, 1), 1);
        }
        for (int mouth = 0; mouth < 8; mouth++) {
            due.same("another NET: no GUARD", x.guards(mouth), 0);
        }
    }

    /** Of the TRAINS of another NET none comes OUT, clashes or is in a DARK any more. */
    private static void toldFewer(Due due) {
        DarkLamps x = Due.net("nm4c1;tb1l9;rd1;rd1;rd1");
        due.same("three TRAINS: clashes", x.clashes() * 100 + x.timetable(1), 312);
        x.go(1);
        due.same("three TRAINS: in a DARK", x.astray(), 7);
        Due.feed(x, "nm4c1;tb1l9;rd1");
        due.same("another NET", x.text(0), 4);
        due.same("one TRAIN: clashes", x.clashes() * 100 + x.timetable(1), 0);
        due.same("one TRAIN: in no DARK", x.astray(), 0);
        x.go(20);
        due.same("one TRAIN: came OUT once", x.count(12) * 10 + x.visits(1), 11);
        Due.feed(x, "nm4c1;tb1l9");
        due.same("another NET", x.text(0), 4);
        due.same("no TRAIN: clashes", x.clashes() * 100 + x.timetable(1), 0);
        x.go(20);
        due.same("no TRAIN: in no DARK, none came OUT", x.astray() + x.count(12), 0);
    }

    private static void toldLaw(Due due) {
        DarkLamps x = new DarkLamps();
        for (int law = 0; law < 4; law++) {
            Due.feed(x, "y:" + law);
            due.same("a LAW", x.text(1), law);
            due.same("the TAPE is empty then", x.count(5), 0);
            due.same("LAWS", x.count(4), law + 1);
            due.same("a new one does not hold", x.count(6), -1);
        }
        Due.feed(x, "y:4");
        due.same("a fifth LAW", x.text(1), -1);
        due.same("the TAPE stays", x.count(5), 3);
        Due.feed(x, "n");
        due.same("a NET", x.text(0), 4);
        due.same("the TAPE is empty then", x.count(5), 0);
        for (int law = -1; law < 4; law++) {
            due.same("the LAW " + law, x.law(law) && x.count(6) == law, true);
            due.same("PRICE by " + law, x.dark(0, 0, 2), law == -1 ? 1 : law);
        }
        due.same("no such LAW", x.law(4) || x.law(-2), false);
        due.same("the one ahead holds", x.count(6), 3);
    }
}
