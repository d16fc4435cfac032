/** THE GRID, and promises 15 to 17: grid, rows, after. */
final class GridSentences {
    private static final int BAD = MagnetRing.BAD, NO = MagnetRing.NO, NONE = MagnetRing.NONE;
    private static final int[] PRIMES = {3, 5, 7, 11, 13, 17, 19, 23, 29, 31};
    private static final String MIXED = "r=d 2/3 q 3/5 s 4 d -1 k s -7 m q 2;";

    private GridSentences() {
    }

    static void all() {
        primes();
        remainders();
        remaindersOfFractions();
        curvedLenses();
        kicksDoNothing();
        roundFromPartZero();
        gridCounts();
        gridBad();
        gridNo();
        rowsOfGrid();
        rowsByFollowing();
        rowsComeBack();
        rowsLongest();
        rowsNone();
        rowsStay();
        rowsBad();
        afterAnswers();
        afterRounds();
        afterBad();
        afterNo();
    }

    private static boolean isPrime(int p) {
        for (int prime : PRIMES) {
            if (prime == p) {
                return true;
            }
        }
        return false;
    }

    private static void primes() {
        Sentence.of(15, "ON A GRID of a prime p (3 to 31)");
        for (int p = -33; p <= 100; p++) {
            MagnetRing ring = Check.ring("r=d 1;");
            // A STRAIGHT of 1 leaves the points with y 0 where they are.
            Check.same("grid(" + p + ")", ring.grid(p), isPrime(p) ? p : BAD);
            Check.same("rows(0)", ring.rows(0), isPrime(p) ? p : NONE);
            Check.same("after(" + p + ", 0, 0, 1)", ring.after(p, 0, 0, 1), isPrime(p) ? 0 : BAD);
        }
    }

    private static void point(String text, int p, int x, int y, int nextX, int nextY) {
        MagnetRing ring = Check.ring(text);
        Check.same(text + " after(" + p + ", " + x + ", " + y + ", 1)", ring.after(p, x, y, 1), nextX * p + nextY);
    }

    private static void remainders() {
        Sentence.of(17, "x and y are remainders by p,");
        // On both sides of p and of 0.
        point("r=d 1;", 5, 3, 1, 4, 1);
        point("r=d 1;", 5, 4, 1, 0, 1);
        point("r=d -1;", 5, 1, 1, 0, 1);
        point("r=d -1;", 5, 0, 1, 4, 1);
        point("r=q 1;", 5, 1, 1, 1, 0);
        point("r=q 1;", 5, 1, 0, 1, 4);
        point("r=q -1;", 5, 1, 3, 1, 4);
        point("r=q -1;", 5, 1, 4, 1, 0);
        // Strengths of p and more are as their remainders.
        point("r=d 31;", 31, 5, 7, 5, 7);
        point("r=d 32;", 31, 5, 7, 12, 7);
        point("r=d -30;", 31, 5, 7, 12, 7);
        point("r=d 9999;", 31, 0, 1, 17, 1);
        point("r=d -9999;", 31, 0, 1, 14, 1);
        point("r=q 9999;", 31, 30, 30, 30, 16);
    }

    private static void remaindersOfFractions() {
        Sentence.of(17, "FRACTIONS too (above times what makes below 1);");
        point("r=d 1/2;", 5, 0, 1, 3, 1);
        point("r=d -1/2;", 5, 0, 1, 2, 1);
        point("r=q 1/2;", 5, 3, 0, 3, 1);
        point("r=q 9999/9998;", 31, 30, 30, 30, 2);
        point("r=q -9999/9998;", 31, 30, 30, 30, 27);
        // For every below of each p: below times what came to x is above times y.
        for (int p : PRIMES) {
            for (int below = 1; below < p; below++) {
                MagnetRing ring = Check.ring("r=d " + (below + 1) + "/" + below + ";");
                int x = ring.after(p, 0, 1, 1) / p;
                Check.same("below " + below + " by " + p, below * x % p, (below + 1) % p);
            }
        }
    }

    private static void curvedLenses() {
        Sentence.of(17, "a CURVED LENS of s: y loses s x x.");
        for (int s : new int[] {1, -1, 2, 30, 31, 9999, -9999}) {
            MagnetRing ring = Check.ring("r=s " + s + ";");
            for (int x = 0; x < 31; x++) {
                int y = Math.floorMod(7 - s * x * x, 31);
                Check.same("s " + s + ": after(31, " + x + ", 7, 1)", ring.after(31, x, 7, 1), x * 31 + y);
            }
        }
        point("r=s 0;", 31, 29, 7, 29, 7);
    }

    private static void kicksDoNothing() {
        Sentence.of(15, "KICKS do nothing there.");
        MagnetRing ring = Check.ring("r=k m d 1 k;");
        ring.kick(0, 1, 3);
        ring.kick(1, 2, 5);
        Check.same("grid(3) with a KICK of 1/3", ring.grid(3), 3);
        Check.same("grid(5) with a KICK of 2/5", ring.grid(5), 5);
        Check.same("after(5, 1, 1, 1)", ring.after(5, 1, 1, 1), 11);
        ring.kick(0, 1, 1);
        Check.same("after(7, 1, 1, 1)", ring.after(7, 1, 1, 1), 15);
    }

    private static void roundFromPartZero() {
        Sentence.of(17, "A round goes from PART 0 on.");
        // x 1 + 2 = 3, y 2 - 3 * 3 = 0, y 0 - 9 = 5 by 7.
        point("r=d 1 q 3 s 1;", 7, 1, 2, 3, 5);
        point("r=q 3 d 1 s 1;", 7, 1, 2, 0, 6);
        point("r=s 1 q 3 d 1;", 7, 1, 2, 6, 5);
        point("r=2*(d 1);", 7, 1, 2, 5, 2);
        MagnetRing ring = Check.ring("r=40*(d 1 d 1);");
        Check.same("all of 80 PARTS", ring.after(31, 0, 1, 1), 80 % 31 * 31 + 1);
    }

    private static void gridCounts() {
        Sentence.of(15, "THE GRID of p: how many points are their own next one by a round.");
        for (int p : PRIMES) {
            Check.same("all of them", Check.ring("r=m;").grid(p), p * p);
            Check.same("those with y 0", Check.ring("r=d 1;").grid(p), p);
            Check.same("those with x 0", Check.ring("r=s 1;").grid(p), p);
            Check.same("0, 0 alone", Check.ring("r=d 1 q 4;").grid(p), 1);
        }
        Check.same("strengths of 0 by 7", Check.ring("r=d 7/2 q -14 s 21;").grid(7), 49);
        Check.same("two", Check.ring("r=d 2/3 q 3/2 s 2;").grid(5), 2);
    }

    private static void gridBad() {
        Sentence.of(15, "BAD: p, or no RING;");
        MagnetRing ring = Check.ring("r=d 1;");
        ring.grid(7);
        for (int p : Check.beside(3, 31)) {
            Check.same("grid(" + p + ")", ring.grid(p), BAD);
        }
        for (int p : new int[] {-3, 0, 1, 2, 4, 9, 15, 21, 25, 27, 30, 32, 37}) {
            Check.same("grid(" + p + ")", ring.grid(p), BAD);
        }
        Check.rows("rows behind BAD", ring, 7, 13, 7, 1);
        MagnetRing none = new MagnetRing();
        for (int p : PRIMES) {
            Check.same("grid(" + p + ") without a RING", none.grid(p), BAD);
        }
        Check.same("grid(4) without a RING", none.grid(4), BAD);
        none.read();
        Check.same("grid(3) behind a fault", none.grid(3), BAD);
        Check.same("BAD ahead of NO", Check.ring("r=d 1/9;").grid(9), BAD);
    }

    private static void gridNo() {
        Sentence.of(15, "NO: a FRACTION's below is 0 by p.");
        MagnetRing ring = Check.ring("r=d 1 q 1/15 k m s 3;");
        Check.holds("grid(7)", ring.grid(7) > 0);
        String before = State.of(ring);
        Check.same("grid(3)", ring.grid(3), NO);
        Check.same("grid(5)", ring.grid(5), NO);
        Check.alike("all behind NO", State.of(ring), before);
        for (int p : PRIMES) {
            Check.same("the first PART, by " + p, Check.ring("r=d 1/" + p + " q 1;").grid(p), NO);
            Check.same("the last PART, by " + p, Check.ring("r=40*(d 1)39*(d 1)q 2/" + 2 * p + ";").grid(p), NO);
            Check.same("p times p, by " + p, Check.ring("r=q -1/" + p * p + ";").grid(p), NO);
            // In lowest terms there is nothing of p below.
            Check.same("not in lowest terms, by " + p, Check.ring("r=d " + p + "/" + p + " q 0/" + p + ";").grid(p), p);
            Check.same("above p, by " + p, Check.ring("r=d 1/" + (p + 1) + ";").grid(p), p);
        }
    }

    private static void rowsOfGrid() {
        Sentence.of(16, "Of THE GRID that was told: 0 p, 1 how many rows of points that follow one another there are (each comes"
                + " back), 2 the longest,");
        for (int p : PRIMES) {
            MagnetRing ring = Check.ring("r=m;");
            ring.grid(p);
            Check.rows("nothing moves", ring, p, p * p, 1, 0);
            ring = Check.ring("r=d 1;");
            ring.grid(p);
            Check.rows("a STRAIGHT", ring, p, p + p - 1, p, 1);
        }
        MagnetRing ring = Check.ring("r=d 1 q 1;");
        ring.grid(7);
        Check.rows("rows of 6", ring, 7, 9, 6, 1);
    }

    /** The rows that after() leads through, point by point, are the rows that are told. */
    private static void rowsByFollowing() {
        Sentence.of(16, "Of THE GRID that was told: 0 p, 1 how many rows of points that follow one another there are (each comes"
                + " back), 2 the longest,");
        for (int p : new int[] {7, 11, 13, 17, 19, 23, 29, 31}) {
            int[] next = new int[p * p];
            MagnetRing ring = null;
            for (int point = 0; point < next.length; point++) {
                // An object answers for 512 calls.
                ring = point % 400 == 0 ? Check.ring(MIXED) : ring;
                next[point] = ring.after(p, point / p, point % p, 1);
                Check.holds("a point of THE GRID", next[point] >= 0 && next[point] < next.length);
            }
            int rows = 0, longest = 0, least = 0, resting = 0;
            boolean[] seen = new boolean[p * p];
            for (int point = 0; point < next.length; point++) {
                int length = 0;
                for (int at = point; !seen[at]; at = next[at]) {
                    seen[at] = true;
                    length++;
                }
                rows += length > 0 ? 1 : 0;
                resting += next[point] == point ? 1 : 0;
                least = length > longest ? point : least;
                longest = Math.max(length, longest);
            }
            Check.same("grid(" + p + ")", ring.grid(p), resting);
            Check.rows("grid(" + p + ")", ring, p, rows, longest, least);
        }
    }

    /** The least point of the longest row comes back after as many rounds as that is long, and not ahead of that. */
    private static void rowsComeBack() {
        Sentence.of(16, "(each comes back)");
        for (int p : new int[] {7, 11, 13, 17, 19, 23, 29, 31}) {
            MagnetRing ring = Check.ring(MIXED);
            ring.grid(p);
            int least = ring.rows(3), longest = ring.rows(2);
            for (int n = 1; n <= Math.min(longest, 400); n++) {
                int at = ring.after(p, least / p, least % p, n);
                Check.holds("none is less", at >= least);
                Check.same("back after " + n, at == least ? 1 : 0, n == longest ? 1 : 0);
            }
            Check.holds("back in the end", longest > 1000 || ring.after(p, least / p, least % p, longest) == least);
        }
    }

    private static void rowsLongest() {
        Sentence.of(16, "3 the point (x times p, and y) of least number in the longest (of several the least).");
        // x stays and y goes round: rows of 5 for each x but 0, so the least is x 1, y 0.
        MagnetRing ring = Check.ring("r=q 1;");
        ring.grid(5);
        Check.rows("a LENS", ring, 5, 9, 5, 5);
        ring = Check.ring("r=s 1;");
        ring.grid(3);
        Check.rows("a CURVED LENS", ring, 3, 5, 3, 3);
        // y stays and x goes round: for each y but 0, so the least is x 0, y 1.
        ring = Check.ring("r=d 1;");
        ring.grid(31);
        Check.rows("a STRAIGHT", ring, 31, 61, 31, 1);
        ring = Check.ring("r=m;");
        ring.grid(31);
        Check.rows("rows of 1 alone", ring, 31, 961, 1, 0);
        // A row that begins later is the longest.
        ring = Check.ring("r=d 2/3 q 3/2 s 2;");
        ring.grid(5);
        Check.same("rows(1)", ring.rows(1), 5);
        Check.same("rows(2)", ring.rows(2), 12);
    }

    private static void rowsNone() {
        Sentence.of(16, "NONE: none was told since THE RING was read.");
        MagnetRing ring = new MagnetRing();
        Check.rows("a new object", ring, NONE, NONE, NONE, NONE);
        ring.grid(3);
        Check.rows("grid() without a RING", ring, NONE, NONE, NONE, NONE);
        Check.read(ring, "r=d 1/5;");
        Check.rows("behind read()", ring, NONE, NONE, NONE, NONE);
        ring.grid(4);
        ring.grid(5);
        ring.after(7, 0, 0, 1);
        Check.rows("behind BAD, NO and after()", ring, NONE, NONE, NONE, NONE);
        ring.grid(3);
        Check.rows("behind grid()", ring, 3, 5, 3, 1);
        Check.read(ring, "r=d 1/5;");
        Check.rows("behind read() of the same", ring, NONE, NONE, NONE, NONE);
    }

    private static void rowsStay() {
        Sentence.of(16, "NONE: none was told since THE RING was read.");
        MagnetRing ring = Check.ring("r=d 1 k m;");
        ring.grid(3);
        ring.after(5, 0, 1, 1);
        ring.kick(0, 1, 1);
        ring.table(0, 1);
        ring.round(0);
        Check.feed(ring, "r=;");
        Check.rows("behind other calls", ring, 3, 5, 3, 1);
        Check.same("a fault", ring.read(), Check.FORM);
        Check.rows("behind a fault", ring, 3, 5, 3, 1);
        ring.grid(5);
        Check.rows("behind another grid()", ring, 5, 9, 5, 1);
        ring.grid(3);
        Check.rows("behind a smaller one", ring, 3, 5, 3, 1);
    }

    private static void rowsBad() {
        Sentence.of(16, "BAD.");
        MagnetRing none = new MagnetRing(), ring = Check.ring("r=d 1;");
        ring.grid(3);
        for (int what : Check.beside(0, 3)) {
            Check.same("rows(" + what + ") with none told", none.rows(what), BAD);
            Check.same("rows(" + what + ")", ring.rows(what), BAD);
        }
    }

    private static void afterAnswers() {
        Sentence.of(17, "The point that x, y on THE GRID of p comes to after n rounds (0 to 1000): x times p, and y.");
        MagnetRing ring = Check.ring("r=d 1;");
        Check.same("after(5, 2, 3, 1)", ring.after(5, 2, 3, 1), 3);
        Check.same("after(5, 4, 4, 1)", ring.after(5, 4, 4, 1), 19);
        Check.same("after(31, 30, 30, 1)", ring.after(31, 30, 30, 1), 29 * 31 + 30);
        Check.same("after(31, 0, 0, 1000)", ring.after(31, 0, 0, 1000), 0);
        ring = Check.ring("r=d 1 q 1;");
        Check.same("after(7, 3, 5, 6)", ring.after(7, 3, 5, 6), 26);
        Check.same("after(7, 3, 5, 3)", ring.after(7, 3, 5, 3), 30);
    }

    private static void afterRounds() {
        Sentence.of(17, "The point that x, y on THE GRID of p comes to after n rounds (0 to 1000): x times p, and y.");
        MagnetRing ring = Check.ring("r=d 1;");
        for (int p : PRIMES) {
            Check.same("after(" + p + ", 1, 2, 0)", ring.after(p, 1, 2, 0), p + 2);
            Check.same("after(" + p + ", 0, 1, 1)", ring.after(p, 0, 1, 1), p + 1);
            Check.same("after(" + p + ", 0, 1, 999)", ring.after(p, 0, 1, 999), 999 % p * p + 1);
            Check.same("after(" + p + ", 0, 1, 1000)", ring.after(p, 0, 1, 1000), 1000 % p * p + 1);
        }
        // n rounds and then one more are n + 1 rounds.
        ring = Check.ring(MIXED);
        int point = 40;
        for (int n = 1; n <= 200; n++) {
            point = ring.after(31, point / 31, point % 31, 1);
            Check.same("after(31, 1, 9, " + n + ")", ring.after(31, 1, 9, n), point);
        }
    }

    private static void afterBad() {
        Sentence.of(17, "BAD: also x, y not 0 to p - 1; NO.");
        MagnetRing ring = Check.ring("r=d 1;");
        for (int p : PRIMES) {
            Check.same("x is p - 1", ring.after(p, p - 1, 0, 0), (p - 1) * p);
            Check.same("y is p - 1", ring.after(p, 0, p - 1, 0), p - 1);
            Check.same("x is p", ring.after(p, p, 0, 0), BAD);
            Check.same("y is p", ring.after(p, 0, p, 0), BAD);
            Check.same("x is -1", ring.after(p, -1, 0, 0), BAD);
            Check.same("y is -1", ring.after(p, 0, -1, 0), BAD);
        }
        for (int other : Check.beside(0, 30)) {
            Check.same("x is " + other, ring.after(31, other, 0, 1), BAD);
            Check.same("y is " + other, ring.after(31, 0, other, 1), BAD);
        }
        for (int n : Check.beside(0, 1000)) {
            Check.same("n is " + n, ring.after(31, 0, 1, n), BAD);
        }
        for (int p : Check.beside(3, 31)) {
            Check.same("p is " + p, ring.after(p, 0, 0, 1), BAD);
        }
        Check.same("p is 9", ring.after(9, 0, 0, 0), BAD);
        Check.same("without a RING", new MagnetRing().after(3, 0, 0, 0), BAD);
    }

    private static void afterNo() {
        Sentence.of(17, "BAD: also x, y not 0 to p - 1; NO.");
        MagnetRing ring = Check.ring("r=d 1 q 1/15 k m s 3;");
        Check.same("after(3, 0, 0, 1)", ring.after(3, 0, 0, 1), NO);
        Check.same("after(5, 0, 0, 1)", ring.after(5, 0, 0, 1), NO);
        Check.same("after(5, 0, 0, 0)", ring.after(5, 0, 0, 0), NO);
        Check.holds("after(7, 1, 1, 1)", ring.after(7, 1, 1, 1) >= 0);
        Check.same("BAD ahead of NO: x", ring.after(3, 3, 0, 1), BAD);
        Check.same("BAD ahead of NO: y", ring.after(3, 0, 3, 1), BAD);
        Check.same("BAD ahead of NO: n", ring.after(3, 0, 0, 1001), BAD);
    }
}
