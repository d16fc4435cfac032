import java.nio.charset.StandardCharsets;

/** What the tests share: rings from texts, and a list of answers that are not due. */
final class Check {
    static final int SIGN = -11, FORM = -12, DEEP = -13, MANY = -14;

    private static final int SHOWN_MOST = 50;
    private static int wrong = 0;
    private static int asked = 0;

    private Check() {
    }

    static void same(String call, long got, long due) {
        alike(call, Long.toString(got), Long.toString(due));
    }

    static void alike(String call, String got, String due) {
        asked++;
        if (!got.equals(due)) {
            wrong++;
            if (wrong <= SHOWN_MOST) {
                System.out.println(Sentence.label() + call + " answered " + got + ", due is " + due);
            }
        }
    }

    static void holds(String what, boolean truth) {
        same(what, truth ? 1 : 0, 1);
    }

    static int asked() {
        return asked;
    }

    static void finish() {
        System.out.println(asked + " answers asked, " + wrong + " not as due");
        if (wrong != 0) {
            System.exit(1);
        }
    }

    /** Numbers on both sides of least to most that are none of these. */
    static int[] beside(int least, int most) {
        return new int[] {Integer.MIN_VALUE, least - 65536, least - 256, least - 1,
            most + 1, most + 256, most + 65536, Integer.MAX_VALUE};
    }

    /** Feeds a text eight bytes a call. */
    static void feed(MagnetRing ring, String text) {
        byte[] bytes = text.getBytes(StandardCharsets.ISO_8859_1);
        for (int from = 0; from < bytes.length; from += 8) {
            int n = Math.min(8, bytes.length - from);
            long v = 0;
            for (int i = 0; i < n; i++) {
                v = v << 8 | bytes[from + i] & 255;
            }
            ring.feed(n, v);
        }
    }

    static int read(MagnetRing ring, String text) {
        feed(ring, text);
        return ring.read();
    }

    static MagnetRing ring(String text) {
        MagnetRing ring = new MagnetRing();
        holds("read of " + text, read(ring, text) > 0);
        return ring;
    }

    /** A text that is refused at a place, on a new object. */
    static void fault(String text, int answer, int place) {
        MagnetRing ring = new MagnetRing();
        same("read of " + text, read(ring, text), answer);
        same("place of " + text, ring.place(), place);
        same("count(1) behind " + text, ring.count(1), 0);
    }

    /** A text that is read, on a new object. */
    static void fine(String text, int parts) {
        MagnetRing ring = new MagnetRing();
        same("read of " + text, read(ring, text), parts);
        same("place of " + text, ring.place(), MagnetRing.NONE);
        same("count(1) behind " + text, ring.count(1), parts);
    }

    static void part(MagnetRing ring, int i, int kind, int above, int below) {
        same("part(" + i + ", 0)", ring.part(i, 0), kind);
        same("part(" + i + ", 1)", ring.part(i, 1), above);
        same("part(" + i + ", 2)", ring.part(i, 2), below);
    }

    static void number(String what, MagnetRing ring, int i, long above, long below) {
        same(what + ", number(" + i + ", 0)", ring.number(i, 0), above);
        same(what + ", number(" + i + ", 1)", ring.number(i, 1), below);
    }

    /** Numbers told, above and below in turn, and that there are no more. */
    static void numbers(String what, MagnetRing ring, long... sides) {
        int amount = sides.length / 2;
        same(what + ", count(4)", ring.count(4), amount);
        for (int i = 0; i < amount; i++) {
            number(what, ring, i, sides[2 * i], sides[2 * i + 1]);
        }
        same(what + ", number(" + amount + ", 0)", ring.number(amount, 0), MagnetRing.NONE);
    }

    static void rows(String what, MagnetRing ring, int... due) {
        for (int i = 0; i < 4; i++) {
            same(what + ", rows(" + i + ")", ring.rows(i), due[i]);
        }
    }
}
