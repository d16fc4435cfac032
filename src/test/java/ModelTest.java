import java.nio.charset.StandardCharsets;
import java.util.Random;

/** Long runs of calls, ordinary and wrong ones mixed, whose answers must be those of Model. */
public final class ModelTest {
    /** An object answers for no more calls than these. */
    private static final int CALLS = 512;
    private static final int CALLS_OF_A_STEP = 12;

    private final Random random;
    private final MagnetRing ring = new MagnetRing();
    private final Model model = new Model();
    private final int style;
    private final String run;
    private int made;

    private ModelTest(int seed) {
        random = new Random(seed);
        style = seed % 4;
        run = "run " + seed + ": ";
    }

    public static void main(String[] args) {
        int runs = args.length > 0 ? Integer.parseInt(args[0]) : 2000;
        int first = args.length > 1 ? Integer.parseInt(args[1]) : 0;
        for (int seed = first; seed < first + runs; seed++) {
            new ModelTest(seed).calls();
        }
        Check.finish();
    }

    private void calls() {
        for (int step = 0; made + CALLS_OF_A_STEP <= CALLS; step++) {
            if (step % 25 == 0) {
                readSome(step > 0 && random.nextInt(3) == 0);
            }
            if (made + CALLS_OF_A_STEP <= CALLS) {
                one();
            }
        }
    }

    private void same(String call, int got, int due) {
        made++;
        Check.same(run + call, got, due);
    }

    private int pick(int bound) {
        return random.nextInt(bound);
    }

    /** Mostly from 0 to most, now and then beside that. */
    private int near(int most) {
        return pick(12) == 0 ? pick(2) == 0 ? -1 - pick(3) : most + 1 + pick(2) : pick(Math.max(1, most + 1));
    }

    /** A text that there is no room for in this run's calls is left alone. */
    private void readSome(boolean spoiled) {
        String text = text();
        if (spoiled) {
            for (int i = pick(3); i >= 0; i--) {
                text = spoil(text);
            }
        }
        byte[] bytes = text.getBytes(StandardCharsets.ISO_8859_1);
        boolean isLong = bytes.length > 200;
        if (made + (isLong ? bytes.length / 8 + 1 : bytes.length) + 2 > CALLS) {
            return;
        }
        for (int from = 0; from < bytes.length; ) {
            int n = Math.min(isLong ? 8 : 1 + pick(8), bytes.length - from);
            long v = random.nextLong();
            for (int i = 0; i < n; i++) {
                v = v << 8 | bytes[from + i] & 255;
            }
            same("feed(" + n + ", " + v + ")", ring.feed(n, v), model.feed(n, v));
            from += n;
        }
        same("read() of " + text, ring.read(), model.read());
        same("place() of " + text, ring.place(), model.place());
    }

    private String spoil(String text) {
        String signs = "=;()*/-0123456789abdkmqs $\n\u00ffA";
        String sign = "" + signs.charAt(pick(signs.length()));
        int at = pick(text.length() + 1);
        switch (pick(4)) {
            case 0:
                return text.substring(0, at);
            case 1:
                return text.substring(0, at) + sign + text.substring(at);
            case 2:
                return text.substring(0, at) + text.substring(Math.min(text.length(), at + 1));
            default:
                return text.substring(0, at) + sign + text.substring(Math.min(text.length(), at + 1));
        }
    }

    private String text() {
        StringBuilder text = new StringBuilder();
        String names = "abcefghij";
        int lines = 1 + pick(4);
        for (int line = 0; line < lines; line++) {
            text.append(names.charAt(line)).append(" = ");
            items(text, names.substring(0, line), 0, 1 + pick(style == 3 ? 12 : 6));
            text.append(";\n");
        }
        return text.toString();
    }

    private void items(StringBuilder text, String names, int open, int amount) {
        for (int i = 0; i < amount && text.length() < 1200; i++) {
            int choice = pick(16);
            if (choice < 4) {
                text.append("d ").append(fraction()).append(' ');
            } else if (choice < 8) {
                text.append("q ").append(fraction()).append(' ');
            } else if (choice == 8) {
                text.append("s ").append(pick(2) == 0 ? "-" : "").append(pick(40)).append(' ');
            } else if (choice < 12) {
                text.append("k ");
            } else if (choice == 12) {
                text.append("m ");
            } else if (choice < 15 && !names.isEmpty()) {
                text.append(names.charAt(pick(names.length()))).append(' ');
            } else {
                text.append(1 + pick(pick(8) == 0 ? 40 : 3)).append("*(");
                items(text, names, open + 1, open > 4 ? 1 : 1 + pick(3));
                text.append(") ");
            }
        }
        if (amount == 0) {
            text.append("m ");
        }
    }

    private String fraction() {
        String sign = pick(3) == 0 ? "-" : "";
        switch (style) {
            case 0:
                return sign + pick(3);
            case 1:
                return sign + pick(5) + "/" + (1 + pick(4));
            case 2:
                return sign + pick(60) + "/" + (1 + pick(60));
            default:
                return pick(6) == 0 ? sign + pick(10000) + "/" + (1 + pick(9999)) : sign + pick(3) + "/" + (1 + pick(2));
        }
    }

    private void one() {
        int parts = model.count(1) - 1, kicks = model.count(2) - 1, looks = model.count(3) - 1;
        switch (pick(18)) {
            case 0:
                partCall(near(parts), near(2));
                break;
            case 1:
            case 2:
                kickCall(near(kicks), pick(20) == 0 ? 10000 + pick(2) : pick(41) - 20, near(10));
                break;
            case 3:
                tableCall(near(parts), pick(3) == 0 ? near(200) : near(parts));
                break;
            case 4:
                int i = near(parts);
                same("round(" + i + ")", ring.round(i), model.round(i));
                break;
            case 5:
                int j = near(parts);
                same("widths(" + j + ")", ring.widths(j), model.widths(j));
                break;
            case 6:
                same("turns()", ring.turns(), model.turns());
                break;
            case 7:
            case 8:
                int w = near(parts);
                same("way(" + w + ")", ring.way(w), model.way(w));
                break;
            case 9:
            case 10:
                int m = near(looks), k = near(kicks);
                same("answer(" + m + ", " + k + ")", ring.answer(m, k), model.answer(m, k));
                break;
            case 11:
            case 12:
                bumpCall(near(kicks));
                break;
            case 13:
                int p = gridSize();
                same("grid(" + p + ")", ring.grid(p), model.grid(p));
                break;
            case 14:
                int r = near(3);
                same("rows(" + r + ")", ring.rows(r), model.rows(r));
                break;
            case 15:
                afterCall(gridSize());
                break;
            case 16:
                int c = near(4);
                same("count(" + c + ")", ring.count(c), model.count(c));
                break;
            default:
                same("place()", ring.place(), model.place());
                break;
        }
        told();
    }

    private int gridSize() {
        int[] sizes = {3, 5, 7, 11, 13, 17, 19, 23, 29, 31};
        return pick(8) == 0 ? pick(45) - 5 : sizes[pick(sizes.length)];
    }

    private void partCall(int i, int what) {
        same("part(" + i + ", " + what + ")", ring.part(i, what), model.part(i, what));
    }

    private void kickCall(int k, int a, int b) {
        same("kick(" + k + ", " + a + ", " + b + ")", ring.kick(k, a, b), model.kick(k, a, b));
    }

    private void tableCall(int i, int n) {
        same("table(" + i + ", " + n + ")", ring.table(i, n), model.table(i, n));
    }

    private void bumpCall(int k) {
        int l = k + 1 + pick(2), m = l + near(2);
        same("bump(" + k + ", " + l + ", " + m + ")", ring.bump(k, l, m), model.bump(k, l, m));
    }

    private void afterCall(int p) {
        int x = near(p - 1), y = near(p - 1), n = pick(2) == 0 ? near(1000) : near(5);
        same("after(" + p + ", " + x + ", " + y + ", " + n + ")", ring.after(p, x, y, n), model.after(p, x, y, n));
    }

    private void told() {
        for (int i = 0; i < 5; i++) {
            same("number(" + i + ", 0)", ring.number(i, 0), model.number(i, 0));
            same("number(" + i + ", 1)", ring.number(i, 1), model.number(i, 1));
        }
        int i = near(4), what = near(1);
        same("number(" + i + ", " + what + ")", ring.number(i, what), model.number(i, what));
    }
}
