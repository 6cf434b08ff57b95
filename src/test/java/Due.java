import java.nio.ByteBuffer;
import java.nio.charset.StandardCharsets;
import java.util.Arrays;

/** Counts answers that are as due, and prints the others. */
final class Due {
    int passed = 0;
    int failed = 0;

    void that(String what, boolean holds) {
        if (holds) {
            passed++;
        } else {
            failed++;
            System.out.println("wrong: " + what);
        }
    }

    void same(String what, long got, long want) {
        that(what + " answered " + got + ", due is " + want, got == want);
    }

    void same(String what, boolean got, boolean want) {
        that(what + " answered " + got + ", due is " + want, got == want);
    }

    /** The text as the only one of the TAPE. */
    static void feed(DarkLamps x, String text) {
        x.end(0);
        byte[] bytes = text.getBytes(StandardCharsets.ISO_8859_1);
        for (int i = 0; i < bytes.length; i += 20) {
            byte[] twenty = Arrays.copyOf(Arrays.copyOfRange(bytes, i, Math.min(i + 20, bytes.length)), 20);
            ByteBuffer words = ByteBuffer.wrap(twenty);
            x.feed(words.getInt(), words.getInt(), words.getInt(), words.getInt(), words.getInt());
        }
    }

    static int faultOf(DarkLamps x, int sort, String text) {
        feed(x, text);
        return x.fault(sort);
    }

    /** A new object with a NET. */
    static DarkLamps net(String text) {
        DarkLamps x = new DarkLamps();
        feed(x, text);
        x.text(0);
        return x;
    }

    /** A LAW more, that holds from now on. */
    static void rule(DarkLamps x, String text) {
        feed(x, text);
        x.law(x.text(1));
    }
}
