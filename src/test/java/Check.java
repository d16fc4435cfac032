import java.nio.charset.StandardCharsets;

/** What the tests share: rings from texts, and a list of answers that are not due. */
final class Check {
    private static final int SHOWN_MOST = 50;
    private static int wrong = 0;
    private static int asked = 0;

    private Check() {
    }

    static void same(String call, long got, long due) {
        asked++;
        if (got != due) {
            wrong++;
            if (wrong <= SHOWN_MOST) {
                System.out.println(call + " answered " + got + ", due is " + due);
            }
        }
    }

    static void holds(String what, boolean truth) {
        same(what, truth ? 1 : 0, 1);
    }

    static void finish() {
        System.out.println(asked + " answers asked, " + wrong + " not as due");
        if (wrong != 0) {
            System.exit(1);
        }
    }

    /** Feeds a text eight bytes a call. */
    static void feed(MagnetRing ring, String text) {
        byte[] bytes = text.getBytes(StandardCharsets.ISO_8859_1);
        for (int from = 0; from < bytes.length; from += 8) {
            int n = Math.min(8, bytes.length - from);
            long v = 0;
            for (int i = 0; i < n; i++) {
                v = v << 8 | bytes[from + i] & 255;
            }
            ring.feed(n, v);
        }
    }

    static int read(MagnetRing ring, String text) {
        feed(ring, text);
        return ring.read();
    }

    static MagnetRing ring(String text) {
        MagnetRing ring = new MagnetRing();
        holds("read of " + text, read(ring, text) > 0);
        return ring;
    }

    static void number(String what, MagnetRing ring, int i, long above, long below) {
        same(what + ", number(" + i + ", 0)", ring.number(i, 0), above);
        same(what + ", number(" + i + ", 1)", ring.number(i, 1), below);
    }

    /** Numbers told, above and below in turn, and that there are no more. */
    static void numbers(String what, MagnetRing ring, long... sides) {
        int amount = sides.length / 2;
        same(what + ", count(4)", ring.count(4), amount);
        for (int i = 0; i < amount; i++) {
            number(what, ring, i, sides[2 * i], sides[2 * i + 1]);
        }
        same(what + ", number(" + amount + ", 0)", ring.number(amount, 0), MagnetRing.NONE);
    }
}
