import java.nio.charset.StandardCharsets;

/** What the tests of the project share: answers compared, texts fed. */
final class Checks {
    private int wrong = 0;
    private int asked = 0;

    void due(String call, long got, long want) {
        asked++;
        if (got != want) {
            wrong++;
            System.out.println(call + " answered " + got + ", due is " + want);
        }
    }

    void end(String name) {
        System.out.println(name + ": " + asked + " answers, " + wrong + " not as due");
        if (wrong != 0 || asked == 0) {
            System.exit(1);
        }
    }

    /** Feeds a text, eight bytes a call. */
    static void feed(ShareHouse x, String text) {
        byte[] bytes = text.getBytes(StandardCharsets.ISO_8859_1);
        for (int at = 0; at < bytes.length; at += 8) {
            int n = Math.min(8, bytes.length - at);
            long w = 0;
            for (int i = n - 1; i >= 0; i--) {
                w = w << 8 | bytes[at + i] & 255;
            }
            x.feed(w, n);
        }
    }

    static int lease(ShareHouse x, int flat, String text) {
        feed(x, text);
        return x.lease(flat);
    }
}
