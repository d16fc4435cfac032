/** FRACTIONS, BIG and TABLES, and promises 7 and 14: table, number. */
final class TableSentences {
    private static final int BAD = MagnetRing.BAD, NONE = MagnetRing.NONE, BIG = MagnetRing.BIG;
    private static final long MOST = 1000000000;

    private TableSentences() {
    }

    static void all() {
        lowestTerms();
        atTheBound();
        beyondTheBound();
        bigAsItComes();
        bigInLowestTerms();
        bigPartByPart();
        motes();
        motesLeftAlone();
        tablesOfMotes();
        tableGoesRound();
        tableOfNone();
        stepByStep();
        tableAmounts();
        tableBad();
        tableBig();
        toldInOrder();
        numberOfWhatWasTold();
        numberNone();
        numberBad();
        numberStays();
    }

    private static int whole(MagnetRing ring) {
        return ring.table(0, ring.count(1));
    }

    private static void lowestTerms() {
        Sentence.of(14, "FRACTIONS are told in lowest terms, what is below above 0.");
        MagnetRing ring = Check.ring("r=d 6/4 d -6/4 d 0/9999 d 9999/9999 d -9998/4 k;");
        Check.part(ring, 0, 0, 3, 2);
        Check.part(ring, 1, 0, -3, 2);
        Check.part(ring, 2, 0, 0, 1);
        Check.part(ring, 3, 0, 1, 1);
        Check.part(ring, 4, 0, -4999, 2);
        ring.kick(0, -10000, 6);
        Check.part(ring, 5, 3, -5000, 3);
        ring.kick(0, 0, 10000);
        Check.part(ring, 5, 3, 0, 1);
        ring.table(0, 2);
        Check.numbers("3/2 - 3/2", ring, 1, 1, 0, 1, 0, 1, 1, 1);
        ring.table(3, 2);
        Check.numbers("1 - 4999/2", ring, 1, 1, -4997, 2, 0, 1, 1, 1);
        // Divided by a number below 0: the sign goes above.
        ring = Check.ring("r=k d 1 q -1/2;");
        ring.kick(0, 1, 1);
        ring.way(0);
        Check.numbers("e is -1/2", ring, -2, 1, -1, 1);
        ring = Check.ring("r=k d 4 k d -6 k;");
        ring.bump(0, 1, 2);
        Check.numbers("b' is -6", ring, -1, 3, -2, 3);
        ring = Check.ring("r=k d 3 k d -6 k;");
        ring.bump(0, 1, 2);
        Check.numbers("b' is -6, B is -3", ring, -1, 2, -1, 2);
    }

    /** Each of a, b, c, d at the bound, above on both sides of 0 and below. */
    private static void atTheBound() {
        Sentence.of(7, "BIG: above or below would be beyond 1000000000 (either sign),");
        Object[][] rows = {
            {"r=q -2997 33*(d 9999)d 3700;", 0, MOST, 1L}, {"r=5*(q 9999)q 2584 d 9999 d 9020;", 0, -MOST, 1L},
            {"r=q 1/1000 d -1/100 q 1/100 d 3/100;", 0, 999679997L, MOST},
            {"r=d 10 q -9999 q -1002 d 9090;", 1, MOST, 1L}, {"r=d -10 q 9999 q 1002 d -9090;", 1, -MOST, 1L},
            {"r=d -1/1000 q -1/1000 d 1/1000;", 1, -1L, MOST},
            {"r=q -1000 d -1000 q 1000;", 2, MOST, 1L}, {"r=q 1000 d 1000 q -1000;", 2, -MOST, 1L},
            {"r=q -1/1000 d 1/1000 q 1/1000;", 2, -1L, MOST},
            {"r=d 2997 33*(q -9999)q -3700;", 3, MOST, 1L}, {"r=5*(d 9999)d 2584 q 9999 q 9020;", 3, -MOST, 1L},
            {"r=d 10/1000 q -1/1000 d 10/1000 q 1/100;", 3, 999809999L, MOST}};
        for (Object[] row : rows) {
            MagnetRing ring = Check.ring((String) row[0]);
            Check.same("table of " + row[0], whole(ring), 4);
            Check.number("table of " + row[0], ring, (Integer) row[1], (Long) row[2], (Long) row[3]);
        }
    }

    /** Each of a, b, c, d one beyond the bound, and below two beyond it, which is as near as a below can come. */
    private static void beyondTheBound() {
        Sentence.of(7, "BIG: above or below would be beyond 1000000000 (either sign),");
        String[] texts = {
            "r=q -5000 20*(d 9999)d 20;", "r=q 3943 25*(d 9999)d 3639;",
            "r=d 41 q -4879 d 4999;", "r=d -41 q 4879 d -4999;", "r=d 1/3943 d 1/983 d 1/258;",
            "r=q -41 d 4879 q -4999;", "r=q 41 d -4879 q 4999;", "r=q 1/3943 q 1/983 q 1/258;",
            "r=d 5000 20*(q -9999)q -20;", "r=d 3943 25*(q 9999)q 3639;"};
        for (String text : texts) {
            MagnetRing ring = Check.ring(text);
            Check.same("table of " + text, whole(ring), BIG);
            Check.same("count(4) behind BIG", ring.count(4), 0);
        }
    }

    /** Each is asked by itself: what comes of it behind that is of no matter. */
    private static void bigAsItComes() {
        Sentence.of(7, "asked of each product, sum, difference as it comes,");
        MagnetRing ring = Check.ring("r=d 10 q -9999 q -1002 d 9090 d -9999;");
        Check.same("a product beyond, its sum within", whole(ring), BIG);
        ring = Check.ring("r=d 10 q -9999 q -1002 d 9090 d -9000 d -999;");
        Check.same("the same in two steps", whole(ring), 4);
        Check.number("the same in two steps", ring, 1, -99999989, 1);
        Check.same("a sum beyond, its product within", whole(Check.ring("r=d 41 q -4879 d 4999;")), BIG);
        Check.same("a difference beyond, its product within", whole(Check.ring("r=q 41 d -4879 q 4999;")), BIG);
        Check.same("a product at the bound", whole(Check.ring("r=d -1000 q 10 d 1000 q 100;")), 4);
        Check.same("a product at the bound below 0", whole(Check.ring("r=d 100 q 5000 d -100 q -20;")), 4);
    }

    /** Products and sums that are beyond the bound only as long as they are not in lowest terms. */
    private static void bigInLowestTerms() {
        Sentence.of(7, "in lowest terms, PART by PART;");
        MagnetRing ring = Check.ring("r=40*(q 9999)d 5000/9999;");
        Check.same("a product", whole(ring), 4);
        Check.numbers("a product", ring, -199999, 1, 5000, 9999, -399960, 1, 1, 1);
        ring = Check.ring("r=d 1/9999 d 1/9998 d 1/9999;");
        Check.same("a sum", whole(ring), 4);
        Check.numbers("a sum", ring, 1, 1, 29995, 99970002, 0, 1, 1, 1);
        ring = Check.ring("r=q 1/9999 q 1/9998 q 1/9999;");
        Check.same("a difference", whole(ring), 4);
        Check.numbers("a difference", ring, 1, 1, 0, 1, -29995, 99970002, 1, 1);
    }

    /** What would be within the bound in the end is BIG, if it is not so behind a PART ahead of that. */
    private static void bigPartByPart() {
        Sentence.of(7, "in lowest terms, PART by PART;");
        MagnetRing ring = Check.ring("r=d 10 q -9999 q -1002 d 9090 d 1 d -1;");
        Check.same("up to the bound", ring.table(0, 4), 4);
        Check.same("beyond", ring.table(0, 5), BIG);
        Check.same("beyond and back", ring.table(0, 6), BIG);
        Check.same("from another PART on", ring.table(4, 6), 4);
        ring = Check.ring("r=d 1/9999 d 1/9998 d 1/9997 d -1/9997;");
        Check.same("below", ring.table(0, 2), 4);
        Check.same("below, beyond", ring.table(0, 3), BIG);
        Check.same("below, beyond and back", ring.table(0, 4), BIG);
        Check.same("below, another way", ring.table(2, 4), 4);
        Check.numbers("below, another way", ring, 1, 1, 19997, 99970002, 0, 1, 1, 1);
    }

    private static void motes() {
        Sentence.of(7, "A mote has x and y. A STRAIGHT of l: x becomes x + l y. A LENS of f: y becomes y - f x.");
        MagnetRing ring = Check.ring("r=d 2/3 q 3/4;");
        ring.table(0, 1);
        Check.numbers("a STRAIGHT", ring, 1, 1, 2, 3, 0, 1, 1, 1);
        ring.table(1, 1);
        Check.numbers("a LENS", ring, 1, 1, 0, 1, -3, 4, 1, 1);
        ring = Check.ring("r=d -2/3 q -3/4 d 0 q 0;");
        ring.table(0, 1);
        Check.numbers("a STRAIGHT below 0", ring, 1, 1, -2, 3, 0, 1, 1, 1);
        ring.table(1, 1);
        Check.numbers("a LENS below 0", ring, 1, 1, 0, 1, 3, 4, 1, 1);
        ring.table(2, 2);
        Check.numbers("of 0", ring, 1, 1, 0, 1, 0, 1, 1, 1);
    }

    private static void motesLeftAlone() {
        Sentence.of(7, "KICKS, LOOKS, CURVED LENSES leave both as they are.");
        MagnetRing ring = Check.ring("r=d 2 k m s 5 q 3;");
        ring.kick(0, 7, 2);
        ring.table(1, 3);
        Check.numbers("k m s", ring, 1, 1, 0, 1, 0, 1, 1, 1);
        ring.table(0, 5);
        Check.numbers("d k m s q", ring, 1, 1, 2, 1, -3, 1, -5, 1);
    }

    private static void tablesOfMotes() {
        Sentence.of(7, "TABLES are a, b, c, d: x becomes a x + b y, y becomes c x + d y.");
        MagnetRing ring = Check.ring("r=d 2/3 q 3/4;");
        ring.table(0, 2);
        // x + 2/3 y, then y - 3/4 (x + 2/3 y) = -3/4 x + 1/2 y.
        Check.numbers("a straight, then a lens", ring, 1, 1, 2, 3, -3, 4, 1, 2);
        ring.table(1, 2);
        Check.numbers("a lens, then a straight", ring, 1, 2, 2, 3, -3, 4, 1, 1);
    }

    private static void tableGoesRound() {
        Sentence.of(7, "THE TABLE from PART i on of n PARTS (THE RING goes round: behind the last the first):"
                + " that of all of them, one behind the other;");
        MagnetRing ring = Check.ring("r=d 1 q 1;");
        Check.same("table(1, 2)", ring.table(1, 2), 4);
        Check.numbers("the last, then the first", ring, 0, 1, 1, 1, -1, 1, 1, 1);
        // Its round comes back after 6, so 12 PARTS are none, and 200 are 8 PARTS.
        Check.same("table(0, 12)", ring.table(0, 12), 4);
        Check.numbers("6 rounds", ring, 1, 1, 0, 1, 0, 1, 1, 1);
        Check.same("table(0, 200)", ring.table(0, 200), 4);
        Check.numbers("100 rounds", ring, -1, 1, -1, 1, 1, 1, 0, 1);
        Check.same("table(1, 199)", ring.table(1, 199), 4);
        Check.numbers("199 PARTS from the last on", ring, -1, 1, 0, 1, 1, 1, -1, 1);
        ring = Check.ring("r=d 3;");
        Check.same("table(0, 200) of one", ring.table(0, 200), 4);
        Check.numbers("200 times the only one", ring, 1, 1, 600, 1, 0, 1, 1, 1);
        ring = Check.ring("r=40*(d 1 d 2);");
        Check.same("table(79, 2)", ring.table(79, 2), 4);
        Check.numbers("the last of 80, then the first", ring, 1, 1, 3, 1, 0, 1, 1, 1);
        Check.same("table(79, 200)", ring.table(79, 200), 4);
        Check.numbers("200 PARTS of 80", ring, 1, 1, 300, 1, 0, 1, 1, 1);
        Check.same("table(79, 199)", ring.table(79, 199), 4);
        Check.numbers("199 PARTS of 80", ring, 1, 1, 299, 1, 0, 1, 1, 1);
    }

    private static void tableOfNone() {
        Sentence.of(7, "of none: 1, 0, 0, 1.");
        for (String text : new String[] {"r=d 5;", "r=q 5 k;", "r=40*(d 9999 q 9999);"}) {
            MagnetRing ring = Check.ring(text);
            Check.same("table(last, 0)", ring.table(ring.count(1) - 1, 0), 4);
            Check.numbers("of none", ring, 1, 1, 0, 1, 0, 1, 1, 1);
            Check.same("table(0, 0)", ring.table(0, 0), 4);
            Check.numbers("of none", ring, 1, 1, 0, 1, 0, 1, 1, 1);
        }
    }

    /**
     * In each of these RINGS one step alone is beyond the bound, and all that comes of it would be within: above on
     * both sides of 0, and below.
     */
    private static void stepByStep() {
        Sentence.of(7, "(By a STRAIGHT a becomes a + l c, then b b + l d; by a LENS c becomes c - f a, then d d - f b;"
                + " other PARTS change nothing.)");
        String[][] rows = {
            {"l c", "r=q -1000 d -500 q 10 d 200;", "r=q 4780 d -3211 q 3 d 22;", "r=q 4/926 d 78/539 q 1 d -15/4136;"},
            {"a + l c", "r=q 99 d 7/6240 d -5699;", "r=q 1591 d 908 d 98/5424;", "r=q 97/708 d 4/5069 d 997/285;"},
            {"l d", "r=d -685/3 q 9641 d 158;", "r=d 5179/9 q 715 d 316;", "r=d 5/7508 q 3/73 d 1/2019;"},
            {"b + l d", "r=d 1000 q 5000 d -200;", "r=d 6143/5 q 4377 d 75;", "r=d 27/425 d 3/7687 d 5/367;"},
            {"f a", "r=q -1000 d 2000 q 500;", "r=q 6878/3 d 32 q 4652;", "r=q 1/352 d 26/6755 q 3/4746;"},
            {"c - f a", "r=q 9135/2 d 628 q 183;", "r=q -989/2 d 1716 q 768;", "r=q 3/871 q 1/735 q 2/2167;"},
            {"f b", "r=d -100 q 1000 d 1000 q 10;", "r=d -721/2 q -9 d 72 q 3525;", "r=d -7/785 q 1/690 d 1 q 1/2157;"},
            {"d - f b", "r=d -8393 q 3/51 q 8225;", "r=d 592 q 1591 q 1/7914;", "r=d 6646/8577 q 3/5864 q 28/45;"}};
        for (String[] row : rows) {
            for (int i = 1; i < row.length; i++) {
                MagnetRing ring = Check.ring(row[i]);
                Check.same(row[0] + " alone of " + row[i], whole(ring), BIG);
            }
        }
        // The other PARTS ask for nothing.
        MagnetRing ring = Check.ring("r=d 10 q -9999 q -1002 d 9090 k m s 9999;");
        ring.kick(0, 10000, 1);
        Check.same("at the bound, then k m s", whole(ring), 4);
        Check.number("at the bound, then k m s", ring, 1, MOST, 1);
    }

    private static void tableAmounts() {
        Sentence.of(7, "THE TABLE from PART i on of n PARTS (0 to 200): 4.");
        MagnetRing ring = Check.ring("r=d 1 d 2 d 3;");
        int[] sums = {0, 1, 3, 6, 7};
        for (int n = 0; n < sums.length; n++) {
            Check.same("table(0, " + n + ")", ring.table(0, n), 4);
            Check.numbers(n + " PARTS", ring, 1, 1, sums[n], 1, 0, 1, 1, 1);
        }
        Check.same("table(2, 1)", ring.table(2, 1), 4);
        Check.numbers("the last", ring, 1, 1, 3, 1, 0, 1, 1, 1);
        Check.same("table(2, 199)", ring.table(2, 199), 4);
        Check.numbers("199 PARTS", ring, 1, 1, 399, 1, 0, 1, 1, 1);
        Check.same("table(2, 200)", ring.table(2, 200), 4);
        Check.numbers("200 PARTS", ring, 1, 1, 400, 1, 0, 1, 1, 1);
    }

    private static void tableBad() {
        Sentence.of(7, "BAD; BIG.");
        MagnetRing ring = Check.ring("r=d 1 d 2 d 3;");
        ring.table(1, 1);
        for (int n : Check.beside(0, 200)) {
            Check.same("table(0, " + n + ")", ring.table(0, n), BAD);
        }
        for (int i : Check.beside(0, 2)) {
            Check.same("table(" + i + ", 0)", ring.table(i, 0), BAD);
            Check.same("table(" + i + ", 200)", ring.table(i, 200), BAD);
        }
        Check.numbers("numbers behind BAD", ring, 1, 1, 2, 1, 0, 1, 1, 1);
        Check.same("table(0, 0) without a RING", new MagnetRing().table(0, 0), BAD);
        ring = Check.ring("r=40*(d 1 q 1);");
        Check.same("table(79, 1) of 80 PARTS", ring.table(79, 1), 4);
        Check.same("table(80, 1) of 80 PARTS", ring.table(80, 1), BAD);
        ring = Check.ring("r=40*(d 9999 q 9999);");
        Check.same("table(0, 201): BAD ahead of BIG", ring.table(0, 201), BAD);
        Check.same("table(80, 200): BAD ahead of BIG", ring.table(80, 200), BAD);
    }

    private static void tableBig() {
        Sentence.of(7, "BAD; BIG.");
        MagnetRing ring = Check.ring("r=d 10 q -9999 q -1002 d 9090 d 1;");
        ring.table(0, 4);
        Check.same("table(0, 5)", ring.table(0, 5), BIG);
        Check.same("table(0, 200)", ring.table(0, 200), BIG);
        Check.numbers("numbers behind BIG", ring, 99999091, 1, MOST, 1, 11001, 1, 110011, 1);
        Check.same("table(1, 3) behind BIG", ring.table(1, 3), 4);
        Check.numbers("table(1, 3)", ring, 99999091, 1, 9090, 1, 11001, 1, 1, 1);
    }

    private static void toldInOrder() {
        Sentence.of(14, "Ahead of the calls `table`, `round`, `widths`, `turns`, `way`, `answer`, `bump`, `number` the"
                + " interface says: ---- tables: what is asked is told by number() then: 0 a, 1 b, 2 c, 3 d, or as told.");
        MagnetRing ring = Check.ring("r=d 2 q 1/3 d 5 k m;");
        Check.same("table(0, 3)", ring.table(0, 3), 4);
        Check.numbers("a, b, c, d", ring, -2, 3, 11, 3, -1, 3, 1, 3);
        Check.same("round(0)", ring.round(0), 2);
        Check.numbers("a, b, c, d", ring, -2, 3, 11, 3, -1, 3, 1, 3);
        Check.same("widths(0)", ring.widths(0), 3);
        Check.numbers("b, (a - d) / 2, - c", ring, 11, 3, -1, 2, 1, 3);
        Check.same("turns()", ring.turns(), 0);
        Check.numbers("as widths told them", ring, 11, 3, -1, 2, 1, 3);
        ring.kick(0, 7, 1);
        Check.same("way(0)", ring.way(0), 2);
        Check.numbers("x, y", ring, 11, 1, 5, 1);
        Check.same("answer(0, 0)", ring.answer(0, 0), 1);
        Check.numbers("x", ring, 11, 7);
    }

    private static void numberOfWhatWasTold() {
        Sentence.of(14, "Of what was told: above (what = 0), below (1) of number i.");
        MagnetRing ring = Check.ring("r=d -1/2 q 2;");
        ring.table(0, 2);
        int[][] due = {{1, 1}, {-1, 2}, {-2, 1}, {2, 1}};
        for (int i = 0; i < 4; i++) {
            Check.same("number(" + i + ", 0)", ring.number(i, 0), due[i][0]);
            Check.same("number(" + i + ", 1)", ring.number(i, 1), due[i][1]);
        }
        // The latest is told, and as often as it is asked for.
        ring.table(0, 1);
        Check.numbers("the latest", ring, 1, 1, -1, 2, 0, 1, 1, 1);
        Check.numbers("again", ring, 1, 1, -1, 2, 0, 1, 1, 1);
    }

    private static void numberNone() {
        Sentence.of(14, "NONE: none such was told; BAD.");
        MagnetRing ring = new MagnetRing();
        Check.same("number(0, 0) at first", ring.number(0, 0), NONE);
        Check.same("number(0, 1) at first", ring.number(0, 1), NONE);
        Check.read(ring, "r=d 1 q 1 k m;");
        Check.same("number(0, 0) behind read", ring.number(0, 0), NONE);
        // Fewer numbers leave none of the earlier ones.
        int[] amounts = {4, 3, 2, 1};
        for (int i = 0; i < amounts.length; i++) {
            Check.same("tells " + amounts[i], tell(ring, amounts[i]), amounts[i]);
            for (int j = 0; j <= 5; j++) {
                boolean told = j < amounts[i];
                Check.same("number(" + j + ", 0) of " + amounts[i], ring.number(j, 0) == NONE ? 0 : 1, told ? 1 : 0);
                Check.same("number(" + j + ", 1) of " + amounts[i], ring.number(j, 1), told ? below(amounts[i], j) : NONE);
            }
        }
        Check.same("number(most, 0)", ring.number(Integer.MAX_VALUE, 0), NONE);
        Check.same("number(256, 0)", ring.number(256, 0), NONE);
        Check.same("number(65536, 0)", ring.number(65536, 0), NONE);
    }

    private static int tell(MagnetRing ring, int amount) {
        switch (amount) {
            case 4: return ring.table(0, 2);
            case 3: return ring.widths(0);
            case 2: return ring.way(0);
            default: return ring.answer(0, 0);
        }
    }

    private static int below(int amount, int i) {
        return amount == 3 && i == 1 ? 2 : 1;
    }

    private static void numberBad() {
        Sentence.of(14, "NONE: none such was told; BAD.");
        MagnetRing ring = new MagnetRing();
        Check.same("number(-1, 0) at first", ring.number(-1, 0), BAD);
        Check.same("number(0, 2) at first", ring.number(0, 2), BAD);
        Check.read(ring, "r=d 1;");
        ring.table(0, 1);
        for (int i : new int[] {-1, -4, -256, -65536, Integer.MIN_VALUE}) {
            Check.same("number(" + i + ", 0)", ring.number(i, 0), BAD);
            Check.same("number(" + i + ", 1)", ring.number(i, 1), BAD);
        }
        for (int what : Check.beside(0, 1)) {
            Check.same("number(0, " + what + ")", ring.number(0, what), BAD);
            Check.same("number(4, " + what + ")", ring.number(4, what), BAD);
        }
    }

    /** No other call tells numbers, and a new RING takes none away: "none such was told" is all that is said. */
    private static void numberStays() {
        Sentence.of(14, "NONE: none such was told; BAD.");
        MagnetRing ring = Check.ring("r=d 1 q 1 k m;");
        ring.widths(0);
        ring.turns();
        ring.grid(5);
        ring.rows(1);
        ring.after(5, 1, 1, 3);
        ring.kick(0, 1, 1);
        ring.part(0, 0);
        ring.count(0);
        ring.place();
        ring.read();
        Check.read(ring, "r=k;");
        Check.numbers("widths, and other calls", ring, 1, 1, 1, 2, 1, 1);
    }
}
