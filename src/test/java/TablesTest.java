/** Promises 7 to 14: table, round, widths, turns, way, answer, bump, number. */
public final class TablesTest {
    private static final int BAD = MagnetRing.BAD, NO = MagnetRing.NO, NONE = MagnetRing.NONE, BIG = MagnetRing.BIG;
    private static final int[] WRONG_PARTS = {Integer.MIN_VALUE, -1, 2, 80, Integer.MAX_VALUE};

    /** A ring whose b is the bound itself. */
    private static final String AT_BOUND = "r=d 10 q -9999 q -1002 d 9090;";
    /** A ring whose d is the bound itself, so that a + d is one beyond. */
    private static final String TRACE_BEYOND = "r=d 2997 33*(q -9999)q -3700;";
    private static final String THREE_KICKS = "r=k d 1 q 1/2 k m d 2 q 1/3 k d 1 m;";

    public static void main(String[] args) {
        withoutRing();
        tables();
        tablesGoRound();
        tablesBig();
        productsBig();
        rounds();
        roundsBig();
        widths();
        widthsRefused();
        turns();
        ways();
        waysAllRound();
        waysRefused();
        answers();
        answersRefused();
        bumps();
        bumpsClose();
        bumpsRefused();
        numbers();
        numbersStay();
        Check.finish();
    }

    private static void withoutRing() {
        MagnetRing ring = new MagnetRing();
        Check.same("table", ring.table(0, 0), BAD);
        Check.same("round", ring.round(0), BAD);
        Check.same("widths", ring.widths(0), BAD);
        Check.same("turns", ring.turns(), BAD);
        Check.same("way", ring.way(0), BAD);
        Check.same("answer", ring.answer(0, 0), BAD);
        Check.same("bump", ring.bump(0, 1, 2), BAD);
        Check.same("count(4)", ring.count(4), 0);
    }

    private static void tables() {
        MagnetRing ring = Check.ring("r=d 2/3 q 3/4 k m s 5;");
        Check.same("table(0, 0)", ring.table(0, 0), 4);
        Check.numbers("of none", ring, 1, 1, 0, 1, 0, 1, 1, 1);
        Check.same("table(0, 1)", ring.table(0, 1), 4);
        Check.numbers("of a straight", ring, 1, 1, 2, 3, 0, 1, 1, 1);
        Check.same("table(1, 1)", ring.table(1, 1), 4);
        Check.numbers("of a lens", ring, 1, 1, 0, 1, -3, 4, 1, 1);
        ring.kick(0, 7, 1);
        Check.same("table(2, 3)", ring.table(2, 3), 4);
        Check.numbers("of a kick, a look, a curved lens", ring, 1, 1, 0, 1, 0, 1, 1, 1);
        Check.same("table(0, 2)", ring.table(0, 2), 4);
        Check.numbers("of a straight and a lens", ring, 1, 1, 2, 3, -3, 4, 1, 2);
        Check.same("table(0, -1)", ring.table(0, -1), BAD);
        Check.same("table(0, 201)", ring.table(0, 201), BAD);
        Check.same("table(5, 0)", ring.table(5, 0), BAD);
        Check.same("table(-1, 0)", ring.table(-1, 0), BAD);
        Check.same("table of least", ring.table(Integer.MIN_VALUE, Integer.MIN_VALUE), BAD);
        Check.same("table of most", ring.table(Integer.MAX_VALUE, Integer.MAX_VALUE), BAD);
    }

    private static void tablesGoRound() {
        MagnetRing ring = Check.ring("r=d 1 q 1;");
        Check.same("table(1, 2)", ring.table(1, 2), 4);
        Check.numbers("a lens and a straight", ring, 0, 1, 1, 1, -1, 1, 1, 1);
        // Its round comes back after 6, so 12 PARTS are none, and 200 are 8 PARTS, 4 rounds.
        Check.same("table(0, 12)", ring.table(0, 12), 4);
        Check.numbers("6 rounds", ring, 1, 1, 0, 1, 0, 1, 1, 1);
        Check.same("table(0, 200)", ring.table(0, 200), 4);
        Check.numbers("100 rounds", ring, -1, 1, -1, 1, 1, 1, 0, 1);
        ring = Check.ring("r=d 3;");
        Check.same("table(0, 200) of one", ring.table(0, 200), 4);
        Check.numbers("200 straights", ring, 1, 1, 600, 1, 0, 1, 1, 1);
    }

    private static void tablesBig() {
        MagnetRing ring = Check.ring(AT_BOUND);
        Check.same("b at the bound", ring.table(0, 4), 4);
        Check.numbers("b at the bound", ring, 99999091, 1, 1000000000, 1, 11001, 1, 110011, 1);
        ring = Check.ring("r=d -10 q 9999 q 1002 d -9090;");
        Check.same("b at the bound below 0", ring.table(0, 4), 4);
        Check.numbers("b at the bound below 0", ring, 99999091, 1, -1000000000, 1, -11001, 1, 110011, 1);
        ring = Check.ring("r=d 10 q -9999 q -1002 d 9090 d 1/2;");
        Check.same("b behind the bound", ring.table(0, 5), BIG);
        ring = Check.ring("r=d 1/1000 q 1/1000 d 1/1000 d 1/17;");
        Check.same("below at the bound", ring.table(0, 3), 4);
        Check.numbers("below at the bound", ring,
                999999, 1000000, 1999999, 1000000000, -1, 1000, 999999, 1000000);
        Check.same("below behind the bound", ring.table(0, 4), BIG);
        Check.number("numbers behind BIG", ring, 1, 1999999, 1000000000);
    }

    /** The product l d is beyond the bound, the sum b + l d would not be. */
    private static void productsBig() {
        MagnetRing ring = Check.ring("r=d 10 q -9999 q -1002 d 9090 d -9999;");
        Check.same("product beyond", ring.table(0, 5), BIG);
        // In two steps no product is.
        ring = Check.ring("r=d 10 q -9999 q -1002 d 9090 d -9000 d -999;");
        Check.same("products within", ring.table(0, 6), 4);
        Check.number("products within", ring, 1, -99999989, 1);
    }

    private static void rounds() {
        String[] lenses = {"-1", "0", "1/100", "1", "2", "3", "399/100", "4", "401/100", "5"};
        int[] states = {0, 1, 2, 2, 2, 2, 2, 1, 0, 0};
        for (int i = 0; i < lenses.length; i++) {
            MagnetRing ring = Check.ring("r=d 1 q " + lenses[i] + ";");
            Check.same("round(0) with q " + lenses[i], ring.round(0), states[i]);
            Check.same("round(1) with q " + lenses[i], ring.round(1), states[i]);
        }
        MagnetRing ring = Check.ring("r=d 1 q 1;");
        ring.round(0);
        Check.numbers("round(0)", ring, 1, 1, 1, 1, -1, 1, 0, 1);
        ring.round(1);
        Check.numbers("round(1)", ring, 0, 1, 1, 1, -1, 1, 1, 1);
        for (int i : WRONG_PARTS) {
            Check.same("round(" + i + ")", ring.round(i), BAD);
        }
        Check.numbers("round behind BAD", ring, 0, 1, 1, 1, -1, 1, 1, 1);
        // LOST and EDGE tell their table, too.
        ring = Check.ring("r=d 1 q 5;");
        ring.round(0);
        Check.numbers("LOST", ring, 1, 1, 1, 1, -5, 1, -4, 1);
    }

    private static void roundsBig() {
        MagnetRing ring = Check.ring(TRACE_BEYOND);
        Check.same("the table is not BIG", ring.table(0, 35), 4);
        Check.numbers("d at the bound", ring, 1, 1, 2997, 1, 333667, 1, 1000000000, 1);
        ring.table(0, 1);
        Check.same("a + d is BIG", ring.round(0), BIG);
        Check.same("turns: a + d is BIG", ring.turns(), BIG);
        Check.same("widths: a + d is BIG", ring.widths(0), BIG);
        Check.numbers("numbers behind BIG", ring, 1, 1, 2997, 1, 0, 1, 1, 1);
        Check.same("e is not BIG", ring.way(0), 2);
        // Where a round starts may make it BIG.
        ring = Check.ring(AT_BOUND);
        Check.same("round(0)", ring.round(0), 0);
        Check.same("round(2)", ring.round(2), BIG);
        Check.same("turns asks the round at 0", ring.turns(), NO);
    }

    private static void widths() {
        MagnetRing ring = Check.ring("r=d 1 q 1;");
        Check.same("widths(0)", ring.widths(0), 3);
        Check.numbers("widths(0)", ring, 1, 1, 1, 2, 1, 1);
        Check.same("widths(1)", ring.widths(1), 3);
        Check.numbers("widths(1)", ring, 1, 1, -1, 2, 1, 1);
        for (int i : WRONG_PARTS) {
            Check.same("widths(" + i + ")", ring.widths(i), BAD);
        }
        Check.numbers("widths behind BAD", ring, 1, 1, -1, 2, 1, 1);
        ring = Check.ring(THREE_KICKS);
        Check.same("widths(2)", ring.widths(2), 3);
        Check.numbers("widths(2)", ring, 8, 3, -2, 3, 1, 2);
        Check.same("widths(6)", ring.widths(6), 3);
        Check.numbers("widths(6)", ring, 2, 1, -1, 3, 1, 2);
    }

    private static void widthsRefused() {
        for (String lens : new String[] {"0", "4", "5", "-1"}) {
            MagnetRing ring = Check.ring("r=d 1 q " + lens + ";");
            ring.table(0, 1);
            Check.same("widths with q " + lens, ring.widths(0), NO);
            Check.numbers("numbers behind NO", ring, 1, 1, 1, 1, 0, 1, 1, 1);
        }
        MagnetRing ring = Check.ring("r=d 1001/1000 q 1009/997 d 1000/999;");
        Check.same("a ring that is STABLE", ring.round(0), 2);
        Check.same("(a - d) / 2 is BIG", ring.widths(0), BIG);
        Check.number("numbers behind BIG", ring, 0, -12997, 996003);
        ring = Check.ring("r=d 2 q -1/990 q -1/841 q -1/719 d 3;");
        Check.same("a ring that is LOST", ring.round(0), 0);
        Check.same("it is not STABLE, and (a - d) / 2 would be BIG", ring.widths(0), NO);
    }

    private static void turns() {
        String[] lenses = {"3", "2", "1", "1/2", "7/2", "0", "4", "5", "-1", "2/3"};
        int[] due = {3, 4, 6, 0, 0, NO, NO, NO, NO, 0};
        for (int i = 0; i < lenses.length; i++) {
            MagnetRing ring = Check.ring("r=d 1 q " + lenses[i] + ";");
            ring.widths(1);
            int told = ring.count(4);
            Check.same("turns with q " + lenses[i], ring.turns(), due[i]);
            Check.same("count(4) behind turns", ring.count(4), told);
        }
        Check.same("turns of one straight", Check.ring("r=d 1;").turns(), NO);
        MagnetRing ring = Check.ring("r=d 1001/1000 q 1009/997 d 1000/999;");
        Check.same("the round at 1 is BIG", ring.round(1), BIG);
        Check.same("turns asks the round at 0", ring.turns(), 0);
    }

    private static void ways() {
        MagnetRing ring = Check.ring("r=d 1 q 1 k m;");
        Check.same("way(0) without kicks", ring.way(0), 2);
        Check.numbers("way(0) without kicks", ring, 0, 1, 0, 1);
        ring.kick(0, 1, 2);
        Check.same("way(0)", ring.way(0), 2);
        Check.numbers("way(0)", ring, 1, 2, 0, 1);
        Check.same("way(2)", ring.way(2), 2);
        Check.numbers("way(2), ahead of the kick", ring, 1, 2, -1, 2);
        Check.same("way(3)", ring.way(3), 2);
        Check.numbers("way(3), behind the kick", ring, 1, 2, 0, 1);
        for (int i : new int[] {-1, 4, Integer.MIN_VALUE, Integer.MAX_VALUE}) {
            Check.same("way(" + i + ")", ring.way(i), BAD);
        }
        Check.numbers("way behind BAD", ring, 1, 2, 0, 1);
        // e is 1 / 2, then - 1 / 2: what is divided by is turned over with its sign.
        ring = Check.ring("r=d 1 q 1/2 k;");
        ring.kick(0, 1, 1);
        Check.same("way with e 1 / 2", ring.way(0), 2);
        Check.numbers("way with e 1 / 2", ring, 2, 1, 0, 1);
        ring = Check.ring("r=k d 1 q -1/2;");
        ring.kick(0, 1, 1);
        Check.same("way with e - 1 / 2", ring.way(0), 2);
        Check.numbers("way with e - 1 / 2", ring, -2, 1, -1, 1);
        // On the EDGE at -2 and LOST there is a closed way too.
        ring = Check.ring("r=d 1 q 4 k;");
        ring.kick(0, 1, 1);
        Check.same("way on the EDGE", ring.way(0), 2);
        Check.numbers("way on the EDGE", ring, 1, 4, 0, 1);
        ring = Check.ring("r=d 1 q 5 k;");
        ring.kick(0, -1, 1);
        Check.same("way of a LOST ring", ring.way(0), 2);
        Check.numbers("way of a LOST ring", ring, -1, 5, 0, 1);
    }

    private static void waysAllRound() {
        MagnetRing ring = Check.ring(THREE_KICKS);
        ring.kick(0, 1, 2);
        ring.kick(1, -3, 1);
        long[][] due = {{-109, 32, 17, 32}, {-109, 32, 33, 32}, {-19, 8, 33, 32}, {-19, 8, 71, 32}, {-19, 8, -25, 32},
            {-19, 8, -25, 32}, {-63, 16, -25, 32}, {-63, 16, 17, 32}, {-63, 16, 17, 32}, {-109, 32, 17, 32}};
        for (int i = 0; i < due.length; i++) {
            Check.same("way(" + i + ")", ring.way(i), 2);
            Check.numbers("way(" + i + ")", ring, due[i]);
        }
    }

    private static void waysRefused() {
        MagnetRing ring = Check.ring("r=d 1 k;");
        ring.table(0, 1);
        Check.same("e is 0", ring.way(0), NO);
        Check.numbers("numbers behind NO", ring, 1, 1, 1, 1, 0, 1, 1, 1);
        // e is 0 ahead of b v, which would be BIG.
        ring = Check.ring("r=20*(d 9999)k;");
        ring.kick(0, 10000, 1);
        Check.same("e is 0 ahead of BIG", ring.way(0), NO);
        // u is BIG ahead of e.
        ring = Check.ring("r=k 20*(d 9999);");
        ring.kick(0, 10000, 1);
        Check.same("BIG ahead of e", ring.way(0), BIG);
        ring.kick(0, 0, 1);
        Check.same("e is 0 without BIG", ring.way(0), NO);
        // x and y are fine at PART 0 and BIG farther on.
        ring = Check.ring("r=d -40/34 q 29/39 d -19/28 q 8/34 q 25/33 m k;");
        ring.kick(0, 17, 27);
        Check.same("way(0)", ring.way(0), 2);
        long above = ring.number(0, 0);
        Check.same("way(6)", ring.way(6), BIG);
        Check.same("number behind BIG", ring.number(0, 0), above);
    }

    private static void answers() {
        MagnetRing ring = Check.ring(THREE_KICKS);
        ring.kick(0, 1, 2);
        ring.kick(1, -3, 1);
        long[][] due = {{5, 4, 1, 1, 3, 2}, {11, 16, 5, 4, 9, 8}};
        for (int m = 0; m < 2; m++) {
            for (int k = 0; k < 3; k++) {
                Check.same("answer(" + m + ", " + k + ")", ring.answer(m, k), 1);
                Check.numbers("answer(" + m + ", " + k + ")", ring, due[m][2 * k], due[m][2 * k + 1]);
            }
        }
        Check.same("kick 0 stays", ring.part(0, 1), 1);
        Check.same("kick 1 stays", ring.part(3, 1), -3);
        Check.same("kick 2 stays", ring.part(7, 1), 0);
        Check.same("way(0)", ring.way(0), 2);
        Check.numbers("way(0) behind answers", ring, -109, 32, 17, 32);
        Check.same("answer(2, 0)", ring.answer(2, 0), BAD);
        Check.same("answer(-1, 0)", ring.answer(-1, 0), BAD);
        Check.same("answer(0, 3)", ring.answer(0, 3), BAD);
        Check.same("answer(0, -1)", ring.answer(0, -1), BAD);
        Check.same("answer of least", ring.answer(Integer.MIN_VALUE, Integer.MIN_VALUE), BAD);
        Check.same("answer of most", ring.answer(Integer.MAX_VALUE, Integer.MAX_VALUE), BAD);
        Check.numbers("numbers behind BAD", ring, -109, 32, 17, 32);
    }

    private static void answersRefused() {
        MagnetRing ring = Check.ring("r=d 1 k m;");
        Check.same("e is 0", ring.answer(0, 0), NO);
        ring = Check.ring("r=k 40*(d 9999)38*(d 9999)m;");
        Check.same("e is 0 in a long ring", ring.answer(0, 0), NO);
        ring = Check.ring("r=6*(d 1/97 q 89/83 d 79/73)k m;");
        ring.table(0, 1);
        Check.same("BIG", ring.answer(0, 0), BIG);
        Check.numbers("numbers behind BIG", ring, 1, 1, 1, 97, 0, 1, 1, 1);
    }

    private static void bumps() {
        MagnetRing ring = Check.ring(THREE_KICKS);
        Check.same("bump(0, 1, 2)", ring.bump(0, 1, 2), 2);
        Check.numbers("bump(0, 1, 2)", ring, -1, 1, 1, 2);
        // Straights alone: 1 -2 1 for equal ones.
        ring = Check.ring("r=k d 3 k d 3 k q 1 k;");
        Check.same("bump of straights", ring.bump(0, 1, 2), 2);
        Check.numbers("bump of straights", ring, -2, 1, 1, 1);
        // A lens where x is 0 again does nothing, and where l and m see the same x there is no bump.
        Check.same("bump over a lens", ring.bump(0, 1, 3), 2);
        Check.numbers("bump over a lens", ring, -2, 1, 1, 1);
        Check.same("bump behind a lens", ring.bump(1, 2, 3), NO);
        int[][] wrong = {{0, 0, 1}, {0, 1, 1}, {1, 0, 2}, {0, 2, 1}, {2, 1, 0}, {-1, 0, 1}, {1, 2, 4}, {0, 4, 5},
            {Integer.MIN_VALUE, 0, 1}, {0, 1, Integer.MAX_VALUE}, {0, -1, 1}};
        for (int[] w : wrong) {
            Check.same("bump(" + w[0] + ", " + w[1] + ", " + w[2] + ")", ring.bump(w[0], w[1], w[2]), BAD);
        }
        Check.numbers("numbers behind BAD", ring, -2, 1, 1, 1);
    }

    /** With the bump's kicks the closed way is 0 outside of it. */
    private static void bumpsClose() {
        MagnetRing ring = Check.ring("r=q 1/3 d 1 k d 2/3 q 1/2 k q -1/5 d 1 k d 1 m q 1/7 k;");
        int[] places = {2, 5, 8, 12};
        int[][] all = {{0, 1, 2}, {0, 1, 3}, {0, 2, 3}, {1, 2, 3}};
        for (int[] b : all) {
            Check.same("bump", ring.bump(b[0], b[1], b[2]), 2);
            int above = ring.number(0, 0), below = ring.number(0, 1);
            int endAbove = ring.number(1, 0), endBelow = ring.number(1, 1);
            for (int k = 0; k < 4; k++) {
                ring.kick(k, 0, 1);
            }
            ring.kick(b[0], 1, 1);
            Check.same("kick", ring.kick(b[1], above, below), 0);
            Check.same("kick", ring.kick(b[2], endAbove, endBelow), 0);
            Check.same("way ahead of k", ring.way(places[b[0]]), 2);
            Check.numbers("way ahead of k", ring, 0, 1, 0, 1);
            Check.same("way ahead of l", ring.way(places[b[1]]), 2);
            Check.holds("x is not 0 within", ring.number(0, 0) != 0);
            Check.same("way behind m", ring.way((places[b[2]] + 1) % 13), 2);
            Check.numbers("way behind m", ring, 0, 1, 0, 1);
        }
    }

    private static void bumpsRefused() {
        MagnetRing ring = Check.ring("r=k d 1 k k;");
        ring.table(0, 2);
        Check.same("b' is 0", ring.bump(0, 1, 2), NO);
        Check.numbers("numbers behind NO", ring, 1, 1, 1, 1, 0, 1, 1, 1);
        // THE TABLE from k is BIG ahead of b', which is 0.
        ring = Check.ring("r=k d 9999 q 9999 d 9999 k k;");
        Check.same("BIG ahead of b'", ring.bump(0, 1, 2), BIG);
        // THE TABLE from k is fine, that from l is BIG.
        ring = Check.ring("r=k d -1/9999 k d 1/9999 q 1/9998 d 1/9997 k;");
        Check.same("table from k", ring.table(0, 6), 4);
        Check.same("table from l", ring.table(2, 4), BIG);
        Check.same("BIG by the table from l", ring.bump(0, 1, 2), BIG);
        // THE TABLES are fine, what comes of them is BIG.
        ring = Check.ring("r=d 34/12 k d 14/19 k d 19/39 q 41/37 d -34/39 m k;");
        Check.same("table from k", ring.table(1, 7), 4);
        long above = ring.number(0, 0);
        Check.same("BIG behind the tables", ring.bump(0, 1, 2), BIG);
        Check.same("number behind BIG", ring.number(0, 0), above);
    }

    private static void numbers() {
        MagnetRing ring = new MagnetRing();
        Check.same("number(0, 0) at first", ring.number(0, 0), NONE);
        Check.same("number(0, 2) at first", ring.number(0, 2), BAD);
        Check.same("number(-1, 0) at first", ring.number(-1, 0), BAD);
        Check.read(ring, "r=d -1/2 q 2;");
        ring.table(0, 2);
        Check.numbers("table", ring, 1, 1, -1, 2, -2, 1, 2, 1);
        Check.same("number(4, 0)", ring.number(4, 0), NONE);
        Check.same("number(4, 1)", ring.number(4, 1), NONE);
        Check.same("number of most", ring.number(Integer.MAX_VALUE, 0), NONE);
        Check.same("number of least", ring.number(Integer.MIN_VALUE, 0), BAD);
        Check.same("number(0, -1)", ring.number(0, -1), BAD);
        Check.same("number(0, 2)", ring.number(0, 2), BAD);
        Check.same("number(4, 2)", ring.number(4, 2), BAD);
        // Fewer numbers told leave none of the earlier ones.
        ring.way(0);
        Check.numbers("way", ring, 0, 1, 0, 1);
        Check.same("number(2, 0)", ring.number(2, 0), NONE);
    }

    private static void numbersStay() {
        MagnetRing ring = Check.ring("r=d 1 q 1 k m;");
        ring.widths(0);
        ring.turns();
        ring.grid(5);
        ring.after(5, 1, 1, 3);
        ring.kick(0, 1, 1);
        ring.part(0, 0);
        ring.read();
        Check.read(ring, "r=k;");
        Check.numbers("widths, and other calls", ring, 1, 1, 1, 2, 1, 1);
    }
}
