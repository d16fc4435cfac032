/** THE ROUND, WIDTHS and TURNS, and promises 8 to 10: round, widths, turns. */
final class RoundSentences {
    private static final int BAD = MagnetRing.BAD, NO = MagnetRing.NO, BIG = MagnetRing.BIG;
    private static final int STABLE = 2, EDGE = 1, LOST = 0;

    /** a + d is 1, and one beyond the bound: its TABLE is within it. */
    private static final String TRACE_BEYOND = "r=d 2997 33*(q -9999)q -3700;";
    private static final String THREE_KICKS = "r=k d 1 q 1/2 k m d 2 q 1/3 k d 1 m;";

    private RoundSentences() {
    }

    static void all() {
        roundIsTable();
        stableEdgeLost();
        stableByALittle();
        traceBig();
        widthsOfRound();
        turnsComeBack();
        roundAnswers();
        roundNumbers();
        roundBad();
        roundBig();
        widthsAnswers();
        widthsBad();
        widthsBig();
        widthsNotStable();
        turnsAnswers();
        turnsNotStable();
        turnsBad();
        turnsBig();
        turnsLeaveNumbers();
    }

    private static void roundIsTable() {
        Sentence.of(8, "THE ROUND at i is THE TABLE from i on of all PARTS.");
        for (int i = 0; i < 10; i++) {
            MagnetRing ring = Check.ring(THREE_KICKS);
            Check.same("table(" + i + ", 10)", ring.table(i, 10), 4);
            String table = State.of(ring);
            ring.table(0, 0);
            Check.same("round(" + i + ")", ring.round(i), STABLE);
            Check.alike("numbers of round(" + i + ")", State.of(ring), table);
        }
    }

    private static void stableEdgeLost() {
        Sentence.of(8, "is above -2 and below 2; it is on the EDGE, if it is one of these; else it is LOST.");
        // a + d is 2 - f.
        String[] lenses = {"-9999", "-1", "-1/9999", "0", "1/9999", "1", "2", "3", "4", "5", "9999"};
        int[] states = {LOST, LOST, LOST, EDGE, STABLE, STABLE, STABLE, STABLE, EDGE, LOST, LOST};
        for (int i = 0; i < lenses.length; i++) {
            MagnetRing ring = Check.ring("r=d 1 q " + lenses[i] + ";");
            Check.same("round(0) with q " + lenses[i], ring.round(0), states[i]);
            Check.same("round(1) with q " + lenses[i], ring.round(1), states[i]);
        }
        Check.same("a STRAIGHT alone", Check.ring("r=d 5;").round(0), EDGE);
        Check.same("a LENS alone", Check.ring("r=q 5;").round(0), EDGE);
        Check.same("a LOOK alone", Check.ring("r=m;").round(0), EDGE);
    }

    /** One part of 99980001 on each side of 2 and of -2. */
    private static void stableByALittle() {
        Sentence.of(8, "THE RING is STABLE, if a + d of it");
        Check.same("2 - 1/99980001", Check.ring("r=d 1/9999 q 1/9999;").round(0), STABLE);
        Check.same("2 + 1/99980001", Check.ring("r=d 1/9999 q -1/9999;").round(0), LOST);
        Check.same("-2 + 1/99980001", Check.ring("r=d 2 d -1/9999 q 2 q 1/9999;").round(0), STABLE);
        Check.same("-2", Check.ring("r=d 2 q 2;").round(0), EDGE);
        Check.same("-2 - 1/9999", Check.ring("r=d 1 q 4 q 1/9999;").round(0), LOST);
        Check.same("-2 + 1/9999", Check.ring("r=d 1 q 4 q -1/9999;").round(0), STABLE);
    }

    private static void traceBig() {
        Sentence.of(8, "(BIG, too)");
        MagnetRing ring = Check.ring("r=2*(36*(d 9999))d 3661 q -1382;");
        Check.same("a + d is 1000000000", ring.round(0), LOST);
        Check.numbers("a + d is 1000000000", ring, 1, 1, 723589, 1, 1382, 1, 999999999, 1);
        ring = Check.ring(TRACE_BEYOND);
        Check.same("a + d is 1000000001", ring.round(0), BIG);
        Check.same("its TABLE is not BIG", ring.table(0, 35), 4);
        Check.numbers("its TABLE", ring, 1, 1, 2997, 1, 333667, 1, 1000000000, 1);
        ring = Check.ring("r=d 1 25*(q 9999)q 3639 d 3942;");
        Check.same("a + d is -1000000000", ring.round(0), LOST);
        ring = Check.ring("r=d 1 14*(q 9999)q 1637 d 7060;");
        Check.same("a + d is -1000000001", ring.round(0), BIG);
        Check.same("its TABLE is not BIG", ring.table(0, 17), 4);
        ring = Check.ring("r=d -1/10 q -10 q -1/1000 d -1/1000 q 70/1000;");
        Check.same("below a + d is 1000000000", ring.round(0), STABLE);
        ring = Check.ring("r=q 3510/9934 d 327/100 q 1/6714;");
        Check.same("below a + d is beyond", ring.round(0), BIG);
        Check.same("its TABLE is not BIG", ring.table(0, 3), 4);
    }

    private static void widthsOfRound() {
        Sentence.of(9, "Its WIDTHS at i are b, (a - d) / 2, - c of THE ROUND there.");
        MagnetRing ring = Check.ring(THREE_KICKS);
        long[][] due = {{11, 6, -1, 6, 1, 2}, {11, 6, -1, 6, 1, 2}, {8, 3, -2, 3, 1, 2}, {8, 3, 2, 3, 1, 2}, {8, 3, 2, 3, 1, 2},
            {8, 3, 2, 3, 1, 2}, {2, 1, -1, 3, 1, 2}, {2, 1, 1, 3, 1, 2}, {2, 1, 1, 3, 1, 2}, {11, 6, -1, 6, 1, 2}};
        for (int i = 0; i < 10; i++) {
            Check.same("widths(" + i + ")", ring.widths(i), 3);
            Check.numbers("widths(" + i + ")", ring, due[i]);
        }
    }

    private static void turnsComeBack() {
        Sentence.of(10, "TURNS: STABLE THE RING comes back to itself after 3, 4, 6 rounds, if a + d is -1, 0, 1.");
        String[] texts = {"r=d 1 q 3;", "r=d 1 q 2;", "r=d 1 q 1;", "r=d 2/3 q 9/2;", "r=q 4 d 1/2;", "r=d 5 q 1/2 d -3;"};
        int[] due = {3, 4, 6, 3, 4, 6};
        for (int i = 0; i < texts.length; i++) {
            MagnetRing ring = Check.ring(texts[i]);
            Check.same("turns() of " + texts[i], ring.turns(), due[i]);
            int size = ring.count(1);
            for (int rounds = 1; rounds <= 6; rounds++) {
                ring.table(0, rounds * size);
                boolean same = ring.number(0, 0) == ring.number(0, 1) && ring.number(1, 0) == 0 && ring.number(2, 0) == 0
                        && ring.number(3, 0) == ring.number(3, 1);
                Check.same("back after " + rounds + " rounds", same ? 1 : 0, rounds % due[i] == 0 ? 1 : 0);
            }
        }
    }

    private static void roundAnswers() {
        Sentence.of(8, "THE ROUND at PART i: 2 STABLE, 1 on the EDGE, 0 LOST.");
        MagnetRing ring = Check.ring("r=d 1 q 1 k m s 7;");
        for (int i = 0; i < 5; i++) {
            Check.same("round(" + i + ")", ring.round(i), 2);
        }
        Check.same("EDGE", Check.ring("r=d 1 q 4;").round(1), 1);
        Check.same("LOST", Check.ring("r=d 1 q 5;").round(1), 0);
        ring = Check.ring("r=39*(d 1 d -1)d 1 q 1;");
        Check.same("the last of 80 PARTS", ring.round(79), 2);
    }

    private static void roundNumbers() {
        Sentence.of(8, "number(): as table().");
        MagnetRing ring = Check.ring("r=d 1 q 1;");
        ring.round(0);
        Check.numbers("STABLE", ring, 1, 1, 1, 1, -1, 1, 0, 1);
        ring.round(1);
        Check.numbers("STABLE, the last PART", ring, 0, 1, 1, 1, -1, 1, 1, 1);
        ring = Check.ring("r=d 1 q 4;");
        ring.round(0);
        Check.numbers("EDGE", ring, 1, 1, 1, 1, -4, 1, -3, 1);
        ring = Check.ring("r=d 1 q 5;");
        ring.round(0);
        Check.numbers("LOST", ring, 1, 1, 1, 1, -5, 1, -4, 1);
    }

    private static void roundBad() {
        Sentence.of(8, "BAD; BIG.");
        MagnetRing ring = Check.ring("r=d 1 q 1;");
        ring.round(1);
        for (int i : Check.beside(0, 1)) {
            Check.same("round(" + i + ")", ring.round(i), BAD);
        }
        Check.numbers("numbers behind BAD", ring, 0, 1, 1, 1, -1, 1, 1, 1);
        Check.same("round(0) without a RING", new MagnetRing().round(0), BAD);
        ring = Check.ring("r=40*(d 9999 q 9999);");
        Check.same("round(80): BAD ahead of BIG", ring.round(80), BAD);
        Check.same("round(79)", ring.round(79), BIG);
    }

    private static void roundBig() {
        Sentence.of(8, "BAD; BIG.");
        MagnetRing ring = Check.ring("r=d 10 q -9999 q -1002 d 9090;");
        Check.same("round(0)", ring.round(0), LOST);
        // Where a round starts may make it BIG.
        Check.same("round(2)", ring.round(2), BIG);
        Check.number("numbers behind BIG", ring, 1, 1000000000, 1);
        ring = Check.ring(TRACE_BEYOND);
        ring.table(0, 1);
        Check.same("a + d is BIG", ring.round(0), BIG);
        Check.numbers("numbers behind BIG", ring, 1, 1, 2997, 1, 0, 1, 1, 1);
    }

    private static void widthsAnswers() {
        Sentence.of(9, "WIDTHS at PART i: 3 numbers.");
        MagnetRing ring = Check.ring("r=d 1 q 1;");
        Check.same("widths(0)", ring.widths(0), 3);
        Check.numbers("widths(0)", ring, 1, 1, 1, 2, 1, 1);
        Check.same("widths(1)", ring.widths(1), 3);
        Check.numbers("widths(1)", ring, 1, 1, -1, 2, 1, 1);
        ring = Check.ring("r=d -1 q -1;");
        Check.same("widths(0)", ring.widths(0), 3);
        Check.numbers("below 0", ring, -1, 1, 1, 2, -1, 1);
    }

    private static void widthsBad() {
        Sentence.of(9, "BAD; BIG;");
        MagnetRing ring = Check.ring("r=d 1 q 1;");
        ring.widths(1);
        for (int i : Check.beside(0, 1)) {
            Check.same("widths(" + i + ")", ring.widths(i), BAD);
        }
        Check.numbers("numbers behind BAD", ring, 1, 1, -1, 2, 1, 1);
        Check.same("widths(0) without a RING", new MagnetRing().widths(0), BAD);
        Check.same("BAD ahead of NO", Check.ring("r=d 1;").widths(1), BAD);
        Check.same("BAD ahead of BIG", Check.ring("r=40*(d 9999 q 9999);").widths(80), BAD);
    }

    private static void widthsBig() {
        Sentence.of(9, "BAD; BIG;");
        MagnetRing ring = Check.ring("r=d 1 q 9 d -105 q 3 d -2 q 3 d -3 q 2 d -3 q 105 d -8 q 1;");
        Check.same("a - d is 1000000000", ring.widths(0), 3);
        Check.numbers("a - d is 1000000000", ring, 444503009, 1, 500000000, 1, 562425889, 1);
        ring = Check.ring("r=d -1 q -9 d 105 q -3 d 2 q -3 d 4 q 2 d 4 q -105 d 8 q -1;");
        Check.same("a - d is -1000000000", ring.widths(0), 3);
        Check.numbers("a - d is -1000000000", ring, 444503009, 1, -500000000, 1, 562425889, 1);
        big("a - d is 1000000002", "r=d 1 q 6 d -2 q -11 d -9 q 3 d -6 q 6 d -3 q 9 d 11 q 2 d -5 q 1;");
        big("a - d above is beyond", "r=d 401/9 q 415/7183 q 5/8973;");
        big("a - d below 0 is beyond", "r=q 152/5091 d 910/11 d 9/9191;");
        ring = Check.ring("r=d -1/1000 q 1/1000 d 2 q 1/1000;");
        Check.same("below (a - d) / 2 is 1000000000", ring.widths(0), 3);
        Check.same("below (a - d) / 2 is 1000000000", ring.number(1, 1), 1000000000);
        big("below (a - d) / 2 is beyond", "r=q 2/5048 d 2/3636 q 2/157;");
        ring = Check.ring(TRACE_BEYOND);
        Check.same("a + d is beyond", ring.widths(0), BIG);
        Check.same("THE ROUND is BIG", Check.ring("r=40*(d 9999 q 9999);").widths(0), BIG);
    }

    /** A STABLE RING whose WIDTHS are BIG. */
    private static void big(String what, String text) {
        MagnetRing ring = Check.ring(text);
        Check.same(what + ": round(0)", ring.round(0), STABLE);
        Check.same(what + ": widths(0)", ring.widths(0), BIG);
        Check.same(what + ": numbers of round stay", ring.count(4), 4);
    }

    private static void widthsNotStable() {
        Sentence.of(9, "NO: it is not STABLE.");
        for (String lens : new String[] {"-1", "-1/9999", "0", "4", "5"}) {
            MagnetRing ring = Check.ring("r=d 1 q " + lens + ";");
            ring.table(0, 1);
            Check.same("widths(0) with q " + lens, ring.widths(0), NO);
            Check.same("widths(1) with q " + lens, ring.widths(1), NO);
            Check.numbers("numbers behind NO", ring, 1, 1, 1, 1, 0, 1, 1, 1);
        }
        Check.same("with q 1/9999", Check.ring("r=d 1 q 1/9999;").widths(0), 3);
        Check.same("with q 4 - 1/9999", Check.ring("r=d 1 q 4 q -1/9999;").widths(0), 3);
        // STABLE is asked ahead of WIDTHS, so a LOST RING is NO, though (a - d) / 2 would be BIG.
        Check.same("LOST", Check.ring("r=d 2 q -1/990 q -1/841 q -1/719 d 3;").widths(0), NO);
    }

    private static void turnsAnswers() {
        Sentence.of(10, "After how many rounds all comes back: 3, 4, 6; 0: STABLE otherwise;");
        String[] lenses = {"3", "2", "1", "1/9999", "2/3", "1/2", "9999/5000", "5/2", "3/2", "7/2"};
        int[] due = {3, 4, 6, 0, 0, 0, 0, 0, 0, 0};
        for (int i = 0; i < lenses.length; i++) {
            Check.same("turns() with q " + lenses[i], Check.ring("r=d 1 q " + lenses[i] + ";").turns(), due[i]);
        }
        // As near to -1, 0 and 1 as a LENS can bring it.
        for (String lens : new String[] {"3 q 1/9999", "3 q -1/9999", "2 q 1/9999", "2 q -1/9999", "1 q 1/9999", "1 q -1/9999"}) {
            Check.same("turns() with q " + lens, Check.ring("r=d 1 q " + lens + ";").turns(), 0);
        }
    }

    private static void turnsNotStable() {
        Sentence.of(10, "NO: it is not STABLE.");
        for (String lens : new String[] {"-9999", "-1", "-1/9999", "0", "4", "4 q 1/9999", "5", "9999"}) {
            Check.same("turns() with q " + lens, Check.ring("r=d 1 q " + lens + ";").turns(), NO);
        }
        Check.same("turns() of one STRAIGHT", Check.ring("r=d 1;").turns(), NO);
        Check.same("turns() of one LOOK", Check.ring("r=m;").turns(), NO);
        Check.same("a + d is 1000000000", Check.ring("r=2*(36*(d 9999))d 3661 q -1382;").turns(), NO);
    }

    private static void turnsBad() {
        Sentence.of(10, "BAD: there is no RING; BIG.");
        MagnetRing ring = new MagnetRing();
        Check.same("a new object", ring.turns(), BAD);
        ring.read();
        Check.same("behind a fault", ring.turns(), BAD);
        Check.feed(ring, "r=d 1 q 1;");
        Check.same("ahead of read", ring.turns(), BAD);
        ring.read();
        Check.same("behind read", ring.turns(), 6);
    }

    private static void turnsBig() {
        Sentence.of(10, "BAD: there is no RING; BIG.");
        Check.same("THE ROUND is BIG", Check.ring("r=40*(d 9999 q 9999);").turns(), BIG);
        Check.same("a + d is BIG", Check.ring(TRACE_BEYOND).turns(), BIG);
        // It is THE ROUND at 0 that is asked.
        MagnetRing ring = Check.ring("r=d 1001/1000 q 1009/997 d 1000/999;");
        Check.same("THE ROUND at 1 is BIG", ring.round(1), BIG);
        Check.same("THE ROUND at 0 is not", ring.turns(), 0);
    }

    private static void turnsLeaveNumbers() {
        Sentence.of(10, "(number() stays.)");
        String[] texts = {"r=d 1 q 1;", "r=d 1 q 1/2;", "r=d 1 q 5;", TRACE_BEYOND};
        for (String text : texts) {
            MagnetRing ring = Check.ring(text);
            ring.turns();
            Check.same("count(4), nothing told", ring.count(4), 0);
            ring.table(0, 1);
            String before = State.of(ring);
            ring.turns();
            Check.alike("numbers behind turns()", State.of(ring), before);
        }
    }
}
