/** Promises 15 to 17: grid, rows, after. */
public final class GridTest {
    private static final int BAD = MagnetRing.BAD, NO = MagnetRing.NO, NONE = MagnetRing.NONE;
    private static final int[] PRIMES = {3, 5, 7, 11, 13, 17, 19, 23, 29, 31};

    public static void main(String[] args) {
        withoutRing();
        sizes();
        nothingMoves();
        straights();
        remainders();
        curvedLenses();
        partsInTurn();
        kicksDoNothing();
        noRemainder();
        longestOfSeveral();
        rowsForget();
        after();
        afterAgreesWithRows();
        Check.finish();
    }

    private static void rows(String what, MagnetRing ring, int... due) {
        for (int i = 0; i < 4; i++) {
            Check.same(what + ", rows(" + i + ")", ring.rows(i), due[i]);
        }
    }

    private static void withoutRing() {
        MagnetRing ring = new MagnetRing();
        Check.same("grid(3)", ring.grid(3), BAD);
        Check.same("grid(4)", ring.grid(4), BAD);
        Check.same("after(3, 0, 0, 0)", ring.after(3, 0, 0, 0), BAD);
        rows("without a ring", ring, NONE, NONE, NONE, NONE);
        Check.same("rows(-1)", ring.rows(-1), BAD);
        Check.same("rows(4)", ring.rows(4), BAD);
    }

    private static boolean isPrime(int p) {
        for (int prime : PRIMES) {
            if (prime == p) {
                return true;
            }
        }
        return false;
    }

    private static void sizes() {
        MagnetRing ring = Check.ring("r=d 1;");
        for (int p = -40; p <= 70; p++) {
            // A straight of 1 leaves the points with y 0 where they are.
            Check.same("grid(" + p + ")", ring.grid(p), isPrime(p) ? p : BAD);
            Check.same("after(" + p + ", 0, 0, 1)", ring.after(p, 0, 0, 1), isPrime(p) ? 0 : BAD);
        }
        Check.same("rows(0) behind BAD", ring.rows(0), 31);
        Check.same("grid of least", ring.grid(Integer.MIN_VALUE), BAD);
        Check.same("grid of most", ring.grid(Integer.MAX_VALUE), BAD);
        Check.same("after of most", ring.after(Integer.MAX_VALUE, 0, 0, 1), BAD);
    }

    private static void nothingMoves() {
        MagnetRing ring = Check.ring("r=m;");
        for (int p : PRIMES) {
            Check.same("grid(" + p + ")", ring.grid(p), p * p);
            rows("nothing moves", ring, p, p * p, 1, 0);
        }
    }

    private static void straights() {
        MagnetRing ring = Check.ring("r=d 1;");
        for (int p : PRIMES) {
            Check.same("grid(" + p + ")", ring.grid(p), p);
            rows("a straight", ring, p, p + p - 1, p, 1);
        }
        // Strengths that are 0 by p.
        ring = Check.ring("r=d 7/2 q -14 s 21;");
        Check.same("grid(7)", ring.grid(7), 49);
        Check.holds("grid(5)", ring.grid(5) < 25);
    }

    private static void point(String text, int p, int x, int y, int nextX, int nextY) {
        MagnetRing ring = Check.ring(text);
        Check.same(text + " after(" + p + ", " + x + ", " + y + ", 1)", ring.after(p, x, y, 1), nextX * p + nextY);
    }

    private static void remainders() {
        point("r=d 1;", 5, 0, 1, 1, 1);
        point("r=d -1;", 5, 0, 1, 4, 1);
        point("r=d 1/2;", 5, 0, 1, 3, 1);
        point("r=d -1/2;", 5, 0, 1, 2, 1);
        point("r=d 3/4;", 7, 1, 3, 5, 3);
        point("r=q 1;", 5, 1, 0, 1, 4);
        point("r=q -1;", 5, 1, 0, 1, 1);
        point("r=q 1/2;", 5, 3, 0, 3, 1);
        point("r=q 9999/9998;", 31, 30, 30, 30, 2);
        point("r=q -9999/9998;", 31, 30, 30, 30, 27);
    }

    private static void curvedLenses() {
        point("r=s 2;", 5, 2, 0, 2, 2);
        point("r=s -2;", 5, 2, 0, 2, 3);
        point("r=s 2;", 5, 3, 0, 3, 2);
        point("r=s 9999;", 31, 30, 0, 30, 14);
        point("r=s 30;", 31, 29, 0, 29, 4);
        point("r=s 0;", 31, 29, 7, 29, 7);
    }

    private static void partsInTurn() {
        // x 1 + 2 = 3, y 2 - 3 * 3 = 0, y 0 - 9 = 5 by 7.
        point("r=d 1 q 3 s 1;", 7, 1, 2, 3, 5);
        point("r=q 3 d 1 s 1;", 7, 1, 2, 0, 6);
        point("r=s 1 q 3 d 1;", 7, 1, 2, 6, 5);
    }

    private static void kicksDoNothing() {
        MagnetRing ring = Check.ring("r=k m d 1 k;");
        ring.kick(0, 1, 3);
        ring.kick(1, 2, 5);
        Check.same("grid(3)", ring.grid(3), 3);
        Check.same("grid(5)", ring.grid(5), 5);
        Check.same("after(5, 1, 1, 1)", ring.after(5, 1, 1, 1), 11);
    }

    private static void noRemainder() {
        MagnetRing ring = Check.ring("r=d 1 q 1/15 k m s 3;");
        Check.same("grid(7)", ring.grid(7) >= 0 ? 1 : 0, 1);
        Check.same("grid(3)", ring.grid(3), NO);
        Check.same("grid(5)", ring.grid(5), NO);
        Check.same("rows(0) behind NO", ring.rows(0), 7);
        Check.same("after(3, 0, 0, 1)", ring.after(3, 0, 0, 1), NO);
        Check.same("after(5, 0, 0, 0)", ring.after(5, 0, 0, 0), NO);
        Check.same("after(3, 3, 0, 1): BAD ahead of NO", ring.after(3, 3, 0, 1), BAD);
        Check.same("after(3, 0, 0, 1001): BAD ahead of NO", ring.after(3, 0, 0, 1001), BAD);
        ring = Check.ring("r=d 1/31;");
        Check.same("grid(31)", ring.grid(31), NO);
        // In lowest terms there is nothing of 3 below.
        ring = Check.ring("r=d 3/6 q 0/3;");
        Check.same("grid(3)", ring.grid(3), 3);
    }

    private static void longestOfSeveral() {
        // A round of 6: 0 stays, 48 points go in 8 rows of 6; the least point of all of these is 1.
        MagnetRing ring = Check.ring("r=d 1 q 1;");
        Check.same("grid(7)", ring.grid(7), 1);
        rows("rows of 6", ring, 7, 9, 6, 1);
        // The longest row is not the one of the least point that moves.
        ring = Check.ring("r=q 1;");
        Check.same("grid(5)", ring.grid(5), 5);
        rows("a lens", ring, 5, 9, 5, 5);
        ring = Check.ring("r=s 1;");
        Check.same("grid(3)", ring.grid(3), 3);
        rows("a curved lens", ring, 3, 5, 3, 3);
        ring = Check.ring("r=d 2/3 q 3/2 s 2;");
        Check.same("grid(5)", ring.grid(5), 2);
        Check.same("rows(1)", ring.rows(1), 5);
        Check.same("rows(2)", ring.rows(2), 12);
    }

    private static void rowsForget() {
        MagnetRing ring = Check.ring("r=d 1;");
        rows("ahead of grid", ring, NONE, NONE, NONE, NONE);
        ring.after(5, 0, 0, 1);
        rows("behind after", ring, NONE, NONE, NONE, NONE);
        ring.grid(3);
        ring.after(5, 0, 1, 1);
        rows("behind grid and after", ring, 3, 5, 3, 1);
        Check.same("rows(-1)", ring.rows(-1), BAD);
        Check.same("rows(4)", ring.rows(4), BAD);
        Check.same("rows of least", ring.rows(Integer.MIN_VALUE), BAD);
        Check.read(ring, "r=;");
        rows("behind a fault", ring, 3, 5, 3, 1);
        ring.grid(5);
        rows("behind another grid", ring, 5, 9, 5, 1);
        Check.read(ring, "r=d 1;");
        rows("behind a read", ring, NONE, NONE, NONE, NONE);
    }

    private static void after() {
        MagnetRing ring = Check.ring("r=d 1;");
        Check.same("after(5, 2, 3, 0)", ring.after(5, 2, 3, 0), 13);
        Check.same("after(5, 4, 4, 1)", ring.after(5, 4, 4, 1), 19);
        Check.same("after(31, 0, 1, 1000)", ring.after(31, 0, 1, 1000), 8 * 31 + 1);
        Check.same("after(31, 0, 1, 1001)", ring.after(31, 0, 1, 1001), BAD);
        Check.same("after(31, 0, 1, -1)", ring.after(31, 0, 1, -1), BAD);
        Check.same("after(31, 31, 0, 1)", ring.after(31, 31, 0, 1), BAD);
        Check.same("after(31, -1, 0, 1)", ring.after(31, -1, 0, 1), BAD);
        Check.same("after(31, 0, 31, 1)", ring.after(31, 0, 31, 1), BAD);
        Check.same("after(31, 0, -1, 1)", ring.after(31, 0, -1, 1), BAD);
        Check.same("after(31, 30, 30, 1)", ring.after(31, 30, 30, 1), 29 * 31 + 30);
        Check.same("after of most", ring.after(31, Integer.MAX_VALUE, Integer.MAX_VALUE, 1), BAD);
        Check.same("after of least", ring.after(31, 0, 0, Integer.MIN_VALUE), BAD);
    }

    /** The longest row's least point comes back after as many rounds as it is long, and not ahead of that. */
    private static void afterAgreesWithRows() {
        MagnetRing ring = Check.ring("r=d 2/3 q 3/5 s 4 d -1 s -7 q 2;");
        for (int p : new int[] {7, 11, 13, 17, 19, 23, 29, 31}) {
            ring.grid(p);
            int least = ring.rows(3), longest = ring.rows(2);
            int back = 0;
            for (int n = 1; n <= Math.min(longest, 1000) && back == 0; n++) {
                int at = ring.after(p, least / p, least % p, n);
                Check.holds("no point of it is less", at >= least);
                back = at == least ? n : 0;
            }
            Check.same("rows(2) of grid " + p, back, longest <= 1000 ? longest : 0);
        }
    }
}
