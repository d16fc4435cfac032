/** LINES, ITEMS and PARTS, and promises 5, 6 and 18: part, kick, count. */
final class PartSentences {
    private static final int BAD = MagnetRing.BAD;
    private static final int FORM = Check.FORM;

    private PartSentences() {
    }

    static void all() {
        lines();
        straightsAndLenses();
        curvedLenses();
        kicksAndLooks();
        times();
        toldNames();
        fractions();
        noNamesToBeTold();
        toldOnce();
        lastLine();
        partsFromZero();
        partsAtMost();
        manyLines();
        partKinds();
        partFractions();
        partOfOtherKinds();
        partBad();
        kickBecomes();
        kickBad();
        counts();
        countsAtMost();
        countBad();
    }

    private static void lines() {
        Sentence.of(3, "It is LINES: NAME = ITEMS ; with one ITEM at least.");
        Check.fine("r=k;", 1);
        Check.fine("a=k;b=m;r=d 1;", 1);
        Check.fault("r=;", FORM, 2);
        Check.fault("a=k;r=;", FORM, 6);
        Check.fault("r=2*();", FORM, 5);
        Check.fault("r=k 2*( );", FORM, 8);
        Check.fault("r k;", FORM, 2);
        Check.fault("=k;", FORM, 0);
        Check.fault("k;", FORM, 0);
        Check.fault(";", FORM, 0);
        Check.fault("1=k;", FORM, 0);
    }

    private static void straightsAndLenses() {
        Sentence.of(3, "ITEMS: d F: a STRAIGHT of length F; q F: a LENS of strength F;");
        MagnetRing ring = Check.ring("r=d 7 q 7 d -3/2 q -3/2 d 0 q 0;");
        Check.part(ring, 0, 0, 7, 1);
        Check.part(ring, 1, 1, 7, 1);
        Check.part(ring, 2, 0, -3, 2);
        Check.part(ring, 3, 1, -3, 2);
        Check.part(ring, 4, 0, 0, 1);
        Check.part(ring, 5, 1, 0, 1);
        Check.fault("r=d;", FORM, 3);
        Check.fault("r=q k;", FORM, 4);
    }

    private static void curvedLenses() {
        Sentence.of(3, "s N or s - N: a CURVED LENS of strength N;");
        MagnetRing ring = Check.ring("r=s 1 s -1 s 0 s - 0 s 9999 s -9999;");
        int[] strengths = {1, -1, 0, 0, 9999, -9999};
        for (int i = 0; i < strengths.length; i++) {
            Check.part(ring, i, 2, strengths[i], 1);
        }
        Check.fault("r=s 1/2;", FORM, 5);
        Check.fault("r=s --1;", FORM, 5);
        Check.fault("r=s;", FORM, 3);
    }

    private static void kicksAndLooks() {
        Sentence.of(3, "k: a KICK; m: a LOOK;");
        MagnetRing ring = Check.ring("r=k m k;");
        Check.part(ring, 0, 3, 0, 1);
        Check.part(ring, 1, 4, 0, 1);
        Check.part(ring, 2, 3, 0, 1);
        Check.fault("r=k 1;", FORM, 5);
        Check.fault("r=m -1;", FORM, 4);
    }

    private static void kinds(MagnetRing ring, int... kinds) {
        Check.same("count(1)", ring.count(1), kinds.length);
        for (int i = 0; i < kinds.length; i++) {
            Check.same("kind of " + i, ring.part(i, 0), kinds[i]);
        }
    }

    private static void times() {
        Sentence.of(3, "N * ( ITEMS ): these N times;");
        kinds(Check.ring("r=1*(k);"), 3);
        kinds(Check.ring("r=2*(d 1 k)m;"), 0, 3, 0, 3, 4);
        kinds(Check.ring("r=m 3*(k);"), 4, 3, 3, 3);
        kinds(Check.ring("r=2*(m 2*(d 1 k)q 1);"), 4, 0, 3, 0, 3, 1, 4, 0, 3, 0, 3, 1);
        kinds(Check.ring("r=2*(2*(2*(2*(2*(2*(d 1))))))q 1;"), kindsOf64());
        Check.fine("r=40*(d 1);", 40);
        Check.fine("r=40*(d 1)40*(q 1);", 80);
    }

    private static int[] kindsOf64() {
        int[] kinds = new int[65];
        kinds[64] = 1;
        return kinds;
    }

    private static void toldNames() {
        Sentence.of(3, "a NAME that a line ahead told: its ITEMS.");
        MagnetRing ring = Check.ring("a=d 1 q 2;b=2*(a k)m;r=s 3 2*(b 2*(s -4)) a;");
        kinds(ring, 2, 0, 1, 3, 0, 1, 3, 4, 2, 2, 0, 1, 3, 0, 1, 3, 4, 2, 2, 0, 1);
        Check.fault("r=a;a=k;", FORM, 2);
        Check.fault("r=r;", FORM, 2);
    }

    private static void fractions() {
        Sentence.of(3, "F: N, N / N, or - and one of these.");
        MagnetRing ring = Check.ring("r=d 5 d 5/3 d -5 d -5/3 d - 5 / 3 q 0 q -0 q -0/9999 q 9999/1 q 1/9999;");
        int[][] due = {{5, 1}, {5, 3}, {-5, 1}, {-5, 3}, {-5, 3}, {0, 1}, {0, 1}, {0, 1}, {9999, 1}, {1, 9999}};
        for (int i = 0; i < due.length; i++) {
            Check.part(ring, i, i < 5 ? 0 : 1, due[i][0], due[i][1]);
        }
        Check.fault("r=d --5;", FORM, 5);
        Check.fault("r=d 5/-3;", FORM, 6);
        Check.fault("r=d 5/3/2;", FORM, 7);
        Check.fault("r=d 5-3;", FORM, 5);
        Check.fault("r=d /3;", FORM, 4);
    }

    private static void noNamesToBeTold() {
        Sentence.of(3, "d, q, s, k, m are no NAMES to be told;");
        for (String kind : new String[] {"d", "q", "s", "k", "m"}) {
            Check.fault(kind + "=k;", FORM, 0);
            Check.fault("r=k;" + kind + "=k;", FORM, 4);
        }
        // All other letters are, and so are two of these.
        for (char c = 'a'; c <= 'z'; c++) {
            if ("dqskm".indexOf(c) < 0) {
                Check.fine(c + "=k;", 1);
            }
        }
        Check.fine("dd=k;kk=dd;mm=kk;ss=mm;qq=ss;", 1);
    }

    private static void toldOnce() {
        Sentence.of(3, "a NAME is told once.");
        Check.fault("a=k;a=k;", FORM, 4);
        Check.fault("a=k;b=k;b=a;", FORM, 8);
        MagnetRing ring = Check.ring("a=k;");
        Check.same("the next TEXT tells it anew", Check.read(ring, "a=k k;"), 2);
    }

    private static void lastLine() {
        Sentence.of(3, "The last line is THE RING.");
        MagnetRing ring = Check.ring("a=40*(d 1);b=k;");
        kinds(ring, 3);
        kinds(Check.ring("b=k;a=m m;"), 4, 4);
        // Lines ahead count only where they are used.
        Check.same("count(2)", ring.count(2), 1);
        Check.same("count(3)", ring.count(3), 0);
    }

    private static void partsFromZero() {
        Sentence.of(5, "PARTS of THE RING, by numbers from 0, are what it comes to, all told NAMES and times gone into:");
        MagnetRing ring = Check.ring("a=2*(d 1 q 2);r=2*(a k)m;");
        int[] due = {0, 1, 0, 1, 3, 0, 1, 0, 1, 3, 4};
        kinds(ring, due);
        Check.same("part(-1, 0)", ring.part(-1, 0), BAD);
        Check.same("part(11, 0)", ring.part(11, 0), BAD);
    }

    private static void partsAtMost() {
        Sentence.of(5, "80 at most; 12 KICKS, 12 LOOKS at most.");
        MagnetRing ring = Check.ring("r=12*(k m)28*(d 1 q 2);");
        Check.same("count(1)", ring.count(1), 80);
        Check.part(ring, 79, 1, 2, 1);
        Check.part(ring, 78, 0, 1, 1);
        Check.same("part(80, 0)", ring.part(80, 0), BAD);
        Check.same("kick(11)", ring.kick(11, 3, 2), 0);
        Check.part(ring, 22, 3, 3, 2);
        Check.same("kick(12)", ring.kick(12, 3, 2), BAD);
        Check.fault("r=12*(k m)28*(d 1 q 2)d 1;", Check.MANY, 25);
        Check.fault("r=12*(k m)k;", Check.MANY, 11);
        Check.fault("r=12*(k m)m;", Check.MANY, 11);
    }

    /** As many lines as a TEXT can have, each made of the one ahead. */
    private static void manyLines() {
        Sentence.of(3, "a NAME that a line ahead told: its ITEMS.");
        StringBuilder text = new StringBuilder("aa=40*(d 1 q 1);");
        String ahead = "aa";
        int lines = 1;
        for (char one = 'a'; one <= 'z'; one++) {
            for (char two = 'b'; two <= 'z' && text.length() + 6 <= 1500; two++) {
                String name = "" + one + two;
                text.append(name).append('=').append(ahead).append(';');
                ahead = name;
                lines++;
            }
        }
        Check.holds("many lines", lines > 240);
        Check.fine(text.toString(), 80);
    }

    private static void partKinds() {
        Sentence.of(5, "Of PART i: 0 its kind: 0 STRAIGHT, 1 LENS, 2 CURVED LENS, 3 KICK, 4 LOOK;");
        kinds(Check.ring("r=d 1 q 1 s 1 k m;"), 0, 1, 2, 3, 4);
        kinds(Check.ring("r=m k s 1 q 1 d 1;"), 4, 3, 2, 1, 0);
    }

    private static void partFractions() {
        Sentence.of(5, "1, 2 its FRACTION, above and below");
        MagnetRing ring = Check.ring("r=d 6/4 d -6/4 q 0/7 q 9999/3 q 9998/9999 d 9999/9999;");
        Check.part(ring, 0, 0, 3, 2);
        Check.part(ring, 1, 0, -3, 2);
        Check.part(ring, 2, 1, 0, 1);
        Check.part(ring, 3, 1, 3333, 1);
        Check.part(ring, 4, 1, 9998, 9999);
        Check.part(ring, 5, 0, 1, 1);
    }

    private static void partOfOtherKinds() {
        Sentence.of(5, "(CURVED LENS: its strength, 1; KICK: the number it has; LOOK: 0, 1).");
        MagnetRing ring = Check.ring("r=s -12 k m k;");
        Check.part(ring, 0, 2, -12, 1);
        Check.part(ring, 1, 3, 0, 1);
        Check.part(ring, 2, 4, 0, 1);
        ring.kick(0, 7, 2);
        ring.kick(1, -4, 6);
        Check.part(ring, 1, 3, 7, 2);
        Check.part(ring, 2, 4, 0, 1);
        Check.part(ring, 3, 3, -2, 3);
    }

    private static void partBad() {
        Sentence.of(5, "BAD: also without a RING.");
        MagnetRing none = new MagnetRing();
        for (int what = -1; what <= 3; what++) {
            Check.same("part(0, " + what + ") without a RING", none.part(0, what), BAD);
        }
        none.read();
        Check.same("part(0, 0) behind a fault", none.part(0, 0), BAD);
        MagnetRing ring = Check.ring("r=d 1 k m;");
        for (int i : Check.beside(0, 2)) {
            for (int what = 0; what <= 2; what++) {
                Check.same("part(" + i + ", " + what + ")", ring.part(i, what), BAD);
            }
        }
        for (int what : Check.beside(0, 2)) {
            Check.same("part(0, " + what + ")", ring.part(0, what), BAD);
        }
        // A shorter RING has no PARTS of the longer one that was there.
        Check.read(ring, "r=k;");
        Check.same("part(0, 0)", ring.part(0, 0), 3);
        Check.same("part(1, 0)", ring.part(1, 0), BAD);
        Check.same("part(2, 0)", ring.part(2, 0), BAD);
    }

    private static void kickBecomes() {
        Sentence.of(6, "KICK k (from 0, as they stand in THE RING) becomes a / b: 0.");
        MagnetRing ring = Check.ring("r=d 1 3*(k m 2*(q 1 k)k);");
        int[] at = {1, 4, 6, 7, 8, 11, 13, 14, 15, 18, 20, 21};
        for (int k = 0; k < 12; k++) {
            Check.same("kick(" + k + ")", ring.kick(k, 2 * k - 11, 24), 0);
        }
        int[][] due = {{-11, 24}, {-3, 8}, {-7, 24}, {-5, 24}, {-1, 8}, {-1, 24},
            {1, 24}, {1, 8}, {5, 24}, {7, 24}, {3, 8}, {11, 24}};
        for (int k = 0; k < 12; k++) {
            Check.part(ring, at[k], 3, due[k][0], due[k][1]);
        }
        Check.same("kick(5) again", ring.kick(5, 9, 3), 0);
        Check.part(ring, at[5], 3, 3, 1);
        Check.part(ring, at[4], 3, -1, 8);
        Check.part(ring, at[6], 3, 1, 24);
        Check.same("kick(5) back to 0", ring.kick(5, 0, 10000), 0);
        Check.part(ring, at[5], 3, 0, 1);
    }

    private static void kickBad() {
        Sentence.of(6, "BAD: a from -10000 to 10000, b from 1 to 10000.");
        MagnetRing ring = Check.ring("r=d 1 k m k;");
        Check.same("kick(0, -10000, 10000)", ring.kick(0, -10000, 10000), 0);
        Check.part(ring, 1, 3, -1, 1);
        Check.same("kick(0, 10000, 1)", ring.kick(0, 10000, 1), 0);
        Check.part(ring, 1, 3, 10000, 1);
        Check.same("kick(0, -10000, 1)", ring.kick(0, -10000, 1), 0);
        Check.part(ring, 1, 3, -10000, 1);
        Check.same("kick(0, 1, 10000)", ring.kick(0, 1, 10000), 0);
        Check.part(ring, 1, 3, 1, 10000);
        for (int a : Check.beside(-10000, 10000)) {
            Check.same("kick(0, " + a + ", 1)", ring.kick(0, a, 1), BAD);
        }
        for (int b : Check.beside(1, 10000)) {
            Check.same("kick(0, 1, " + b + ")", ring.kick(0, 1, b), BAD);
        }
        Check.same("kick(0, 1, -1)", ring.kick(0, 1, -1), BAD);
        for (int k : Check.beside(0, 1)) {
            Check.same("kick(" + k + ", 1, 1)", ring.kick(k, 1, 1), BAD);
        }
        Check.part(ring, 1, 3, 1, 10000);
        Check.part(ring, 3, 3, 0, 1);
        Check.same("kick(0) without KICKS", Check.ring("r=d 1 m;").kick(0, 1, 1), BAD);
        Check.same("kick(0) without a RING", new MagnetRing().kick(0, 1, 1), BAD);
    }

    private static void counts() {
        Sentence.of(18, "How many: 0 bytes of THE TEXT, 1 PARTS, 2 KICKS, 3 LOOKS, 4 numbers told.");
        MagnetRing ring = Check.ring("r=d 1 q 1 k m k m m;");
        Check.feed(ring, "hello");
        int[] due = {5, 7, 2, 3, 0};
        for (int what = 0; what <= 4; what++) {
            Check.same("count(" + what + ")", ring.count(what), due[what]);
        }
        ring.table(0, 1);
        Check.same("count(4) behind table", ring.count(4), 4);
        ring.widths(0);
        Check.same("count(4) behind widths", ring.count(4), 3);
        ring.way(0);
        Check.same("count(4) behind way", ring.count(4), 2);
        ring.answer(0, 0);
        Check.same("count(4) behind answer", ring.count(4), 1);
        ring.round(0);
        Check.same("count(4) behind round", ring.count(4), 4);
        Check.same("read", Check.read(ring, "=m;"), 1);
        int[] dueThen = {0, 1, 0, 1, 4};
        for (int what = 0; what <= 4; what++) {
            Check.same("count(" + what + ") behind read", ring.count(what), dueThen[what]);
        }
    }

    private static void countsAtMost() {
        Sentence.of(18, "How many: 0 bytes of THE TEXT, 1 PARTS, 2 KICKS, 3 LOOKS, 4 numbers told.");
        MagnetRing ring = Check.ring("r=12*(k m)28*(d 1 q 1);");
        Check.feed(ring, "r=k;" + " ".repeat(1496));
        int[] due = {1500, 80, 12, 12};
        for (int what = 0; what <= 3; what++) {
            Check.same("count(" + what + ")", ring.count(what), due[what]);
        }
        ring.feed(1, ' ');
        Check.same("count(0) behind FULL", ring.count(0), 1500);
        ring.read();
        int[] dueThen = {0, 1, 1, 0};
        for (int what = 0; what <= 3; what++) {
            Check.same("count(" + what + ")", ring.count(what), dueThen[what]);
        }
    }

    private static void countBad() {
        Sentence.of(18, "BAD.");
        for (int what : Check.beside(0, 4)) {
            Check.same("count(" + what + ") of a new object", new MagnetRing().count(what), BAD);
            Check.same("count(" + what + ")", Check.ring("r=k;").count(what), BAD);
        }
    }
}
