/** Promise 6: DARKS, and PRICES by LAWS. */
final class PricesTest {
    private static final String NET = "nm4c2;ta1b2l3;ta2c1b8l7;ta3b3l4;ga2;ga2;ga1";

    static void run(Due due) {
        darks(due);
        letters(due);
        sums(due);
        conditions(due);
        bounds(due);
    }

    private static void darks(Due due) {
        DarkLamps x = Due.net(NET);
        due.same("where to", x.dark(1, 0, 0), 2);
        due.same("HOURS", x.dark(1, 0, 1), 3);
        due.same("PRICE", x.dark(1, 0, 2), 3);
        due.same("without a TUNNEL", x.dark(0, 1, 0), 0);
        due.same("without a TUNNEL, HOURS", x.dark(0, 1, 1), 1);
        due.same("not known", x.dark(2, 1, 0), -1000000);
        due.same("not known, HOURS", x.dark(2, 1, 1), 1);
        due.same("not known, PRICE", x.dark(2, 1, 2), 1);
        due.same("to itself", x.dark(3, 0, 0), 3);
        due.same("to itself, HOURS", x.dark(3, 0, 1), 4);
        due.same("UNLIT", x.dark(1, 5, 0), 1);
        due.same("UNLIT, HOURS", x.dark(1, 5, 1), 1);
        due.same("no such COLOUR", x.dark(1, 2, 0), -1);
        due.same("no such COLOUR", x.dark(1, -1, 0), -1);
        due.same("no such COLOUR", x.dark(1, 6, 0), -1);
        due.same("no such MOUTH", x.dark(4, 0, 0), -1);
        due.same("no such MOUTH", x.dark(-1, 0, 0), -1);
        due.same("no such what", x.dark(1, 0, 3), -1);
        due.same("no such what", x.dark(1, 0, -1), -1);
    }

    private static void price(Due due, String law, int mouth, int colour, int want) {
        DarkLamps x = Due.net(NET);
        Due.rule(x, law);
        due.same("PRICE of " + mouth + "/" + colour + " by " + law, x.dark(mouth, colour, 2), want);
    }

    private static void letters(Due due) {
        price(due, "y:a", 1, 0, 1);
        price(due, "y:b", 1, 0, 2);
        price(due, "y:c", 1, 0, 0);
        price(due, "y:c", 1, 1, 1);
        price(due, "y:l", 1, 0, 3);
        price(due, "y:g", 1, 0, 2);
        price(due, "y:g", 1, 1, 1);
        price(due, "y:g", 1, 5, 1);
        price(due, "y:c", 1, 5, 5);
        price(due, "y:b", 1, 5, 1);
        price(due, "y:l", 1, 5, 1);
        price(due, "y:b*10+l", 2, 1, 21);
        price(due, "y:g", 0, 0, 0);
    }

    private static void sums(Due due) {
        price(due, "y:2+3*4", 0, 0, 14);
        price(due, "y:[2+3]*4", 0, 0, 20);
        price(due, "y:20-3-4", 0, 0, 13);
        price(due, "y:20/3*2", 0, 0, 12);
        price(due, "y:20/[3*2]", 0, 0, 3);
        price(due, "y:9+[0-7]/2", 0, 0, 6);
        price(due, "y:7/0+5", 0, 0, 5);
        price(due, "y:0007", 0, 0, 7);
        price(due, "y: [ 1 + l ] * 2 ", 1, 0, 8);
        price(due, "y:9999-9990", 0, 0, 9);
    }

    private static void conditions(Due due) {
        price(due, "y:a=1?10;y:a=2?20;y:a>1?30;y:40", 1, 0, 10);
        price(due, "y:a=1?10;y:a=2?20;y:a>1?30;y:40", 2, 0, 20);
        price(due, "y:a=1?10;y:a=2?20;y:a>1?30;y:40", 3, 0, 30);
        price(due, "y:a=1?10;y:a=2?20;y:a>1?30;y:40", 0, 0, 40);
        price(due, "y:a=1?10", 0, 0, 0);
        price(due, "y:a<2?10;y:20", 1, 0, 10);
        price(due, "y:a<2?10;y:20", 2, 0, 20);
        price(due, "y:a=1|a=2&c=1?10;y:20", 1, 0, 10);
        price(due, "y:a=1|a=2&c=1?10;y:20", 2, 0, 20);
        price(due, "y:a=1|a=2&c=1?10;y:20", 2, 1, 10);
        price(due, "y:(a=1|a=2)&c=1?10;y:20", 1, 0, 20);
        price(due, "y:(a=1|a=2)&c=1?10;y:20", 1, 1, 10);
        price(due, "y:!a=1?10;y:20", 1, 0, 20);
        price(due, "y:!a=1?10;y:20", 2, 0, 10);
        price(due, "y:!a=1&c=1?10;y:20", 2, 0, 20);
        price(due, "y:!(a=1&c=1)?10;y:20", 2, 0, 10);
        price(due, "y:a+1=b?10;y:20", 1, 0, 10);
        price(due, "y:7;y:8", 1, 0, 7);
    }

    private static void bounds(Due due) {
        price(due, "y:100", 0, 0, 99);
        price(due, "y:0-5", 0, 0, 0);
        price(due, "y:9999*9999/9999", 0, 0, 99);
        price(due, "y:9999*9999-9999*100-95", 0, 0, 5);
        price(due, "y:[0-9999]*9999+9999*100+105", 0, 0, 5);
        price(due, "y:9999*9999+1-9999*100-95", 0, 0, 5);
        price(due, "y:[0-9999]*9999-9999+9999*100+105", 0, 0, 5);
        price(due, "y:9999*100*9999*9999*9999/9999", 0, 0, 99);
    }
}
