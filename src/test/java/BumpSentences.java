/** Promise 13: bump. */
final class BumpSentences {
    private static final int BAD = MagnetRing.BAD, NO = MagnetRing.NO, BIG = MagnetRing.BIG;
    private static final String FOUR_KICKS = "r=k d 3 k d 3 k q 1 k;";

    private BumpSentences() {
    }

    static void all() {
        closes();
        twoNumbers();
        twelveKicks();
        byTables();
        stepByStep();
        tableFromFirst();
        bad();
        refusesNothingElse();
        noWithoutWidth();
    }

    /** With the bump's numbers THE CLOSED WAY is 0 ahead of k and behind m, and not between. */
    private static void closes() {
        Sentence.of(13, "A bump: KICK k with 1, which numbers of KICKS l and m (k below l below m) let x and y, 0 ahead of k,"
                + " be 0 behind m: 2 numbers.");
        int[] places = {2, 5, 8, 12};
        int[][] all = {{0, 1, 2}, {0, 1, 3}, {0, 2, 3}, {1, 2, 3}};
        for (int[] b : all) {
            MagnetRing ring = Check.ring("r=q 1/3 d 1 k d 2/3 q 1/2 k q -1/5 d 1 k d 1 m q 1/7 k;");
            Check.same("bump", ring.bump(b[0], b[1], b[2]), 2);
            int above = ring.number(0, 0), below = ring.number(0, 1);
            int endAbove = ring.number(1, 0), endBelow = ring.number(1, 1);
            ring.kick(b[0], 1, 1);
            Check.same("kick", ring.kick(b[1], above, below), 0);
            Check.same("kick", ring.kick(b[2], endAbove, endBelow), 0);
            Check.same("way ahead of k", ring.way(places[b[0]]), 2);
            Check.numbers("way ahead of k", ring, 0, 1, 0, 1);
            Check.same("way ahead of l", ring.way(places[b[1]]), 2);
            Check.holds("x is not 0 within", ring.number(0, 0) != 0);
            Check.same("way behind m", ring.way((places[b[2]] + 1) % 13), 2);
            Check.numbers("way behind m", ring, 0, 1, 0, 1);
        }
    }

    private static void twoNumbers() {
        Sentence.of(13, "A bump: KICK k with 1, which numbers of KICKS l and m (k below l below m) let x and y, 0 ahead of k,"
                + " be 0 behind m: 2 numbers.");
        MagnetRing ring = Check.ring(FOUR_KICKS);
        Check.same("bump(0, 1, 2)", ring.bump(0, 1, 2), 2);
        Check.numbers("equal STRAIGHTS", ring, -2, 1, 1, 1);
        // A LENS where x is 0 again does nothing.
        Check.same("bump(0, 1, 3)", ring.bump(0, 1, 3), 2);
        Check.numbers("over a LENS", ring, -2, 1, 1, 1);
        // The numbers that KICKS have are none of its matter, and stay.
        ring.kick(0, 5, 1);
        ring.kick(1, 7, 1);
        Check.same("bump(0, 1, 2)", ring.bump(0, 1, 2), 2);
        Check.numbers("with other KICKS", ring, -2, 1, 1, 1);
        Check.part(ring, 0, 3, 5, 1);
        Check.part(ring, 2, 3, 7, 1);
        Check.part(ring, 4, 3, 0, 1);
        // All comes closed at l already: m has nothing to do.
        ring = Check.ring("r=k d 1 q 2 d 1 k d 1 k;");
        Check.same("half a turn", ring.bump(0, 1, 2), 2);
        Check.numbers("half a turn", ring, 1, 1, 0, 1);
    }

    private static void twelveKicks() {
        Sentence.of(13, "(k below l below m)");
        MagnetRing ring = Check.ring("r=12*(k d 1);");
        Check.same("bump(0, 1, 11)", ring.bump(0, 1, 11), 2);
        Check.numbers("bump(0, 1, 11)", ring, -11, 10, 1, 10);
        Check.same("bump(0, 10, 11)", ring.bump(0, 10, 11), 2);
        Check.numbers("bump(0, 10, 11)", ring, -11, 1, 10, 1);
        Check.same("bump(9, 10, 11)", ring.bump(9, 10, 11), 2);
        Check.numbers("bump(9, 10, 11)", ring, -2, 1, 1, 1);
        Check.same("bump(10, 11, 12)", ring.bump(10, 11, 12), BAD);
        Check.same("bump(10, 11, 0)", ring.bump(10, 11, 0), BAD);
    }

    private static void byTables() {
        Sentence.of(13, "With TABLES B, D from k to m, from l to m (b, d each): that of l is (0 - B) / b', that of m (0 - D) -"
                + " that of l times d'.");
        MagnetRing ring = Check.ring("r=k d 1 q 1/2 k m d 2 q 1/3 k d 1 m;");
        ring.table(0, 7);
        Check.numbers("B is 2, D is -1/6", ring, 0, 1, 2, 1, -1, 2, -1, 6);
        ring.table(3, 4);
        Check.numbers("b' is 2, d' is 1/3", ring, 1, 1, 2, 1, -1, 3, 1, 3);
        Check.same("bump(0, 1, 2)", ring.bump(0, 1, 2), 2);
        Check.numbers("-2 / 2, 1/6 + 1/3", ring, -1, 1, 1, 2);
        ring = Check.ring("r=m k q 7 d 2/3 k q -3/2 d -4/5 k;");
        Check.same("bump with signs", ring.bump(0, 1, 2), 2);
        Check.numbers("bump with signs", ring, -7, 6, -5, 6);
    }

    /** In each of these one step alone is beyond the bound, and all that comes of it would be within. */
    private static void stepByStep() {
        Sentence.of(13, "BAD; BIG;");
        String[][] rows = {
            {"from k, l d", "r=k d -1000 q 1000 k d 1000 k;"}, {"from k, b + l d", "r=k d 35/2731 d -1/1299 d 1/394 k d 4/12 k;"},
            {"from k, f b", "r=k d 1000 k q -100 d 1000 q 10 k;"}, {"from k, c - f a", "r=k q 9135/2 k d 628 q 183 k;"},
            {"from l, b + l d", "r=k d 1/69 k d -366/9384 d 7/4015 d -320/1092 k;"},
            {"from l, f a", "r=k q 30 k q -1000 d 1000 q 1000 k;"}, {"from l, l c", "r=k q -4 k q 55 d -4060/3 q 107 d -106 k;"},
            {"(0 - B) / b'", "r=k d 205/38 q 265/3 k d 47 q -1/10 d -3/100 k;"},
            {"(0 - B) / b'", "r=k d 8237/7787 k d 3 q 5/2 d -8237/7787 k;"},
            {"(0 - B) / b'", "r=k d 67/143 q 71/294 q 2/2 k d 3 q -71/294 d -67/143 k;"},
            {"that of l times d'", "r=k d 1 k d 6502 q 26 k;"}, {"that of l times d'", "r=k d 6 k d 5162 q -81 k;"},
            {"that of l times d'", "r=k d 3/272 k d -8/715 q 1/675 k;"},
            {"(0 - D) - that", "r=k d 190/11 q -501 d 9873 k d 3/12 k;"},
            {"(0 - D) - that", "r=k d 4/93 d 2135/176 k d -268/5023 k;"},
            {"(0 - D) - that", "r=k d -2/204 q 1/184 d 25/236 k d 290 k;"}};
        for (String[] row : rows) {
            MagnetRing ring = Check.ring(row[1]);
            ring.table(0, 0);
            Check.same(row[0] + " alone of " + row[1], ring.bump(0, 1, 2), BIG);
            Check.numbers("numbers behind BIG", ring, 1, 1, 0, 1, 0, 1, 1, 1);
        }
        // At the bound on both sides, above and below.
        Check.same("at the bound", Check.ring("r=k d -1000 q -1000 k d 1000 k;").bump(0, 1, 2), 2);
        Check.same("at the bound", Check.ring("r=k d 1000 q 1000 k d -1000 k;").bump(0, 1, 2), 2);
        Check.same("at the bound", Check.ring("r=k k d -1/1000 q -1/1000 d 1/1000 k;").bump(0, 1, 2), 2);
    }

    private static void tableFromFirst() {
        Sentence.of(13, "(THE TABLE from PART k on, then that from l on.)");
        // b' is 0, and THE TABLE from k on is BIG ahead of that.
        for (String text : new String[] {"r=k d 9999 q 9999 d 9999 k k;", "r=k d 3037/3 q -69 d 5788 k k;",
            "r=k q 738/8 d 7284 q 589 k k;", "r=k q -1000 d 2000 k q 500 k;"}) {
            Check.same("bump of " + text, Check.ring(text).bump(0, 1, 2), BIG);
        }
        // THE TABLE from l on is BIG by its c; its b' is 0.
        Check.same("from l", Check.ring("r=k q -12/9 k q 1/1697 q -93 q -5/6429 k;").bump(0, 1, 2), BIG);
        // THE TABLE from k on is fine, that from l on is BIG.
        MagnetRing ring = Check.ring("r=k d -1/9999 k d 1/9999 q 1/9998 d 1/9997 k;");
        Check.same("table from k", ring.table(0, 6), 4);
        Check.same("table from l", ring.table(2, 4), BIG);
        Check.same("BIG by the table from l", ring.bump(0, 1, 2), BIG);
        // What is beyond m, or ahead of k, is not asked.
        Check.same("BIG behind m", Check.ring("r=k d 1 k d 1 k 20*(d 9999 q 9999);").bump(0, 1, 2), 2);
        Check.same("BIG ahead of k", Check.ring("r=20*(d 9999 q 9999)k d 1 k d 1 k;").bump(0, 1, 2), 2);
    }

    private static void bad() {
        Sentence.of(13, "BAD; BIG;");
        MagnetRing ring = Check.ring(FOUR_KICKS);
        ring.bump(0, 1, 2);
        int[][] wrong = {{0, 0, 1}, {0, 1, 1}, {1, 1, 1}, {1, 0, 2}, {0, 2, 1}, {2, 1, 0}, {0, -1, 1}, {0, 4, 5}};
        for (int[] w : wrong) {
            Check.same("bump(" + w[0] + ", " + w[1] + ", " + w[2] + ")", ring.bump(w[0], w[1], w[2]), BAD);
        }
        for (int other : Check.beside(0, 3)) {
            Check.same("bump(" + other + ", 1, 2)", ring.bump(other, 1, 2), BAD);
            Check.same("bump(0, " + other + ", 2)", ring.bump(0, other, 2), BAD);
            Check.same("bump(0, 1, " + other + ")", ring.bump(0, 1, other), BAD);
        }
        Check.numbers("numbers behind BAD", ring, -2, 1, 1, 1);
        Check.same("without a RING", new MagnetRing().bump(0, 1, 2), BAD);
        Check.same("without KICKS", Check.ring("r=d 1;").bump(0, 1, 2), BAD);
        Check.same("of two KICKS", Check.ring("r=k d 1 k d 1;").bump(0, 1, 2), BAD);
        Check.same("BAD ahead of NO", Check.ring("r=k d 1 k k;").bump(0, 1, 3), BAD);
        Check.same("BAD ahead of BIG", Check.ring("r=k d 9999 q 9999 d 9999 k k;").bump(0, 1, 3), BAD);
    }

    /** A RING that is on the EDGE or LOST has bumps too. */
    private static void refusesNothingElse() {
        Sentence.of(13, "BAD; BIG; NO: b' is 0.");
        MagnetRing edge = Check.ring("r=k d 1 k d 1 k;");
        Check.same("on the EDGE", edge.round(0), 1);
        Check.same("a bump of it", edge.bump(0, 1, 2), 2);
        MagnetRing lost = Check.ring("r=k d 1 k d 1 k q -5;");
        Check.same("LOST", lost.round(0), 0);
        Check.same("a bump of it", lost.bump(0, 1, 2), 2);
    }

    private static void noWithoutWidth() {
        Sentence.of(13, "NO: b' is 0.");
        MagnetRing ring = Check.ring("r=k d 1 k k;");
        ring.table(0, 2);
        Check.same("nothing between l and m", ring.bump(0, 1, 2), NO);
        Check.numbers("numbers behind NO", ring, 1, 1, 1, 1, 0, 1, 1, 1);
        Check.same("a LENS between l and m", Check.ring(FOUR_KICKS).bump(1, 2, 3), NO);
        Check.same("a way there and back", Check.ring("r=k d 1 k d 2 d -2 k;").bump(0, 1, 2), NO);
        Check.same("half a turn between l and m", Check.ring("r=k d 1 k d 1 q 2 d 1 k;").bump(0, 1, 2), NO);
        // B is 0 as well: there is none all the same.
        Check.same("k, l and m at one place", Check.ring("r=k k k;").bump(0, 1, 2), NO);
        // B alone is 0.
        ring = Check.ring("r=k d 1 k d -1 k;");
        Check.same("B is 0", ring.bump(0, 1, 2), 2);
        Check.numbers("B is 0", ring, 0, 1, -1, 1);
        ring = Check.ring("r=k d 1 k d 1/9999 k;");
        Check.same("b' is near 0", ring.bump(0, 1, 2), 2);
        Check.numbers("b' is near 0", ring, -10000, 1, 9999, 1);
    }
}
