/** THE CLOSED WAY, and promises 11 and 12: way, answer. */
final class WaySentences {
    private static final int BAD = MagnetRing.BAD, NO = MagnetRing.NO, BIG = MagnetRing.BIG;
    private static final String THREE_KICKS = "r=k d 1 q 1/2 k m d 2 q 1/3 k d 1 m;";

    private WaySentences() {
    }

    static void all() {
        kicksAdd();
        comesBack();
        fromWithin();
        turnedOver();
        stepByStep();
        ledOnStepByStep();
        wayAnswers();
        wayBad();
        wayBigAsItComes();
        wayNoAsItComes();
        answers();
        answersOfAll();
        answerBad();
        answerBig();
        answerNo();
        answerLeavesKicks();
    }

    /** A RING with the numbers of its KICKS, "a/b a/b ..". */
    private static MagnetRing kicked(String text, String kicks) {
        MagnetRing ring = Check.ring(text);
        String[] numbers = kicks.split(" ");
        for (int k = 0; k < numbers.length; k++) {
            String[] sides = numbers[k].split("/");
            int below = sides.length < 2 ? 1 : Integer.parseInt(sides[1]);
            Check.same("kick(" + k + ")", ring.kick(k, Integer.parseInt(sides[0]), below), 0);
        }
        return ring;
    }

    private static void kicksAdd() {
        Sentence.of(11, "THE CLOSED WAY for KICKS: each KICK adds its number (a FRACTION, 0 at first) to y.");
        MagnetRing ring = Check.ring("r=d 1 q 1 k m;");
        Check.same("way(0), 0 at first", ring.way(0), 2);
        Check.numbers("0 at first", ring, 0, 1, 0, 1);
        ring.kick(0, 1, 2);
        Check.same("way(2)", ring.way(2), 2);
        Check.numbers("ahead of the KICK", ring, 1, 2, -1, 2);
        Check.same("way(3)", ring.way(3), 2);
        Check.numbers("behind it", ring, 1, 2, 0, 1);
        // Two KICKS at one place are as one of both numbers.
        ring = kicked("r=d 1 q 1 k k;", "1/3 1/6");
        Check.same("way(0)", ring.way(0), 2);
        Check.numbers("1/3 and 1/6", ring, 1, 2, 0, 1);
        ring = kicked("r=d 1 q 1 k k;", "1/2 -1/2");
        Check.same("way(0)", ring.way(0), 2);
        Check.numbers("1/2 and -1/2", ring, 0, 1, 0, 1);
        Check.same("way(3)", ring.way(3), 2);
        Check.numbers("between them", ring, 0, 1, 1, 2);
    }

    private static void comesBack() {
        Sentence.of(11, "x and y ahead of PART 0 that come back as they were: by THE ROUND and what all KICKS come to behind"
                + " it, u and v: with e = 2 - a - d (of THE ROUND at 0): x = ((1 - d) u + b v) / e, y = (c u + (1 - a) v) / e.");
        MagnetRing ring = kicked(THREE_KICKS, "1/2 -3");
        long[][] due = {{-109, 32, 17, 32}, {-109, 32, 33, 32}, {-19, 8, 33, 32}, {-19, 8, 71, 32}, {-19, 8, -25, 32},
            {-19, 8, -25, 32}, {-63, 16, -25, 32}, {-63, 16, 17, 32}, {-63, 16, 17, 32}, {-109, 32, 17, 32}};
        for (int i = 0; i < due.length; i++) {
            Check.same("way(" + i + ")", ring.way(i), 2);
            Check.numbers("way(" + i + ")", ring, due[i]);
        }
        // u is 0 with the KICK behind all, v is 0 with the LENS taking all that the KICK gave.
        ring = kicked("r=d 1 q 1/2 k;", "1");
        Check.same("u is 0", ring.way(0), 2);
        Check.numbers("u is 0", ring, 2, 1, 0, 1);
        ring = kicked("r=k d 2 q 1/2;", "1");
        Check.same("v is 0", ring.way(0), 2);
        Check.numbers("v is 0", ring, 2, 1, -1, 1);
        // On the EDGE at -2 and LOST there is one too.
        ring = kicked("r=d 1 q 4 k;", "1");
        Check.same("on the EDGE", ring.way(0), 2);
        Check.numbers("on the EDGE", ring, 1, 4, 0, 1);
        ring = kicked("r=d 1 q 5 k;", "-1");
        Check.same("LOST", ring.way(0), 2);
        Check.numbers("LOST", ring, -1, 5, 0, 1);
    }

    /** Other orders of the same sums would not be BIG, or would be. */
    private static void fromWithin() {
        Sentence.of(11, "formulas go as they are written, from within, from the left;");
        MagnetRing ring = Check.ring("r=q 5000 20*(d 9999)d 20;");
        Check.same("a is -999999999, d is 1: a + d is within", ring.round(0), 0);
        Check.same("2 - a comes first", ring.way(0), BIG);
        ring = Check.ring("r=d 5000 20*(q 9999)q 20;");
        Check.same("a is 1, d is -999999999", ring.way(0), 2);
        ring = Check.ring("r=d 2997 33*(q -9999)q -3700;");
        Check.same("a + d is beyond", ring.round(0), BIG);
        Check.same("(2 - a) - d is not", ring.way(0), 2);
        ring = kicked("r=d 1/100 q -3/1000 d 1000 q 10 k k;", "-1 4");
        Check.same("1 - d comes ahead of times u", ring.way(0), BIG);
        ring = kicked("r=k d -563 q 3349;", "7/8");
        Check.same("(1 - d) u comes ahead of b v", ring.way(0), BIG);
        ring = kicked("r=d 3452 q 1 d 35 k d -8;", "-8710");
        Check.same("the sum comes ahead of / e", ring.way(0), BIG);
        ring = Check.ring("r=d 401/9 q 415/7183 q 5/8973;");
        Check.same("a - d comes ahead of / 2", ring.widths(0), BIG);
    }

    private static void turnedOver() {
        Sentence.of(11, "divided by is times that turned over.");
        MagnetRing ring = kicked("r=d 1 q 1/2 k;", "1");
        Check.same("e is 1/2", ring.way(0), 2);
        Check.numbers("e is 1/2", ring, 2, 1, 0, 1);
        ring = kicked("r=k d 1 q -1/2;", "1");
        Check.same("e is -1/2", ring.way(0), 2);
        Check.numbers("e is -1/2", ring, -2, 1, -1, 1);
        ring = kicked("r=d 1 q -5/3 k;", "10/7");
        Check.same("e is -5/3", ring.way(0), 2);
        Check.numbers("e is -5/3", ring, -6, 7, 0, 1);
        // e at the bound is as good below as above.
        ring = Check.ring("r=d 1 q 1000 k d 1000 q -1000;");
        Check.same("e is 1000000000", ring.way(0), 2);
        Check.numbers("without KICKS", ring, 0, 1, 0, 1);
        ring = Check.ring("r=d 1000 q 1 k d -1000 q -1000;");
        Check.same("e is -1000000000", ring.way(0), 2);
        Check.numbers("without KICKS", ring, 0, 1, 0, 1);
    }

    /** In each of these one step alone is beyond the bound, and all that comes of it would be within. */
    private static void stepByStep() {
        Sentence.of(11, "(PART by PART THE TABLE goes first, then u, v, as x and y: u becomes u + l v; v v - f u; by a KICK v"
                + " and its number. Then e, (2 - a) - d; then x, y;");
        String[][] rows = {
            {"THE TABLE, l d", "r=d -2221/7 q 5542 d -102 k;", "0"}, {"THE TABLE, f a", "r=q -91/3 d 4051 q 3223 k;", "0"},
            {"l v", "r=k q -7 k d -10 d 1000;", "279 -76/3707"}, {"l v", "r=k k q -6/9 d -4/2 d -31;", "9659/6 -7/8096"},
            {"u + l v", "r=k d 8/10 q 100 d 1000 d -1000;", "-4831"}, {"u + l v", "r=k d -1 q -600 d 1000 d -1000;", "7291/10"},
            {"u + l v", "r=q 360/11 k d -133/1605 d 2/4900 k;", "1/5080 -5/116"},
            {"f u", "r=k k d -1 q -200 q 1000 q 10;", "1/1001 -1104"},
            {"v - f u", "r=k d -1/978 q -8/7116;", "2143"}, {"v - f u", "r=k d -1/835 q -6/96 q -1/999;", "-2958"},
            {"v - f u", "r=k d 261/6 q -1/73 k q 99/141;", "-1/957 1/481"},
            {"v and its number", "r=k d 1/178 q -2 k;", "6418/17 2/3275"},
            {"v and its number", "r=k d -2/300 q 19 k;", "-7437/5 50/5759"},
            {"v and its number", "r=k d -7/5 q -23/100 k;", "453/2345 -62/4765"},
            {"2 - a", "r=k q 839/221 d 82/728 d -29/9075;", "-4"},
            {"(2 - a) - d", "r=q 8/6285 d 66 q 8360 k;", "-2/7"}, {"(2 - a) - d", "r=q 6133 d -1167 q 2/205 k;", "0"},
            {"(2 - a) - d", "r=k q 3/3491 d -2/954 q -1/946;", "0"},
            {"1 - d", "r=d 1/100 q -3/1000 d 1000 q 10 k k;", "-1 4"},
            {"(1 - d) u", "r=k d -563 q 3349;", "7/8"}, {"(1 - d) u", "r=k d 3767 q 7;", "-25/4"},
            {"(1 - d) u", "r=k d 1/1000 q 1/1000;", "3/7"},
            {"b v", "r=k d 363 q -2;", "3792"}, {"b v", "r=k d 113 q 50;", "3056/5"}, {"b v", "r=k d 1/3471 q 9/16;", "1/28"},
            {"(1 - d) u + b v", "r=d 3452 q 1 d 35 k d -8;", "-8710"}, {"(1 - d) u + b v", "r=d 1843 q 4973 d -2 k d 1;", "-86"},
            {"(1 - d) u + b v", "r=d 1011/5315 k q -329/3 d 36/5222;", "-1/243"},
            {"x / e", "r=d 557/9 q -814 d 448 k;", "-9"}, {"x / e", "r=d -5409 q 295 d 5/4 k;", "183"},
            {"x / e", "r=d 2000 q -6000 d -1 k;", "2/1535"},
            {"c u", "r=k q 600 d 10 q 10;", "4963/6"}, {"c u", "r=q 10 k d 100 q 400;", "-34/3"},
            {"c u", "r=q 2/5479 k d -37/317 q 5/2;", "-1/3"},
            {"(1 - a) v", "r=q -1000 k d 600 q 1;", "19/52"}, {"(1 - a) v", "r=q 4363 k d -249 q 2;", "6/17"},
            {"(1 - a) v", "r=q 46/155 k d -1/1711 q -1/3;", "2"},
            {"c u + (1 - a) v", "r=q 200 d 1000 k d 1;", "6086/7"}, {"c u + (1 - a) v", "r=q 149 d -1322 k d 487;", "5308"},
            {"c u + (1 - a) v", "r=k q 23/2159 d 7/891 k;", "58 2/535"},
            {"y / e", "r=k q 3/100 d -1 q -7000;", "-2808"}, {"y / e", "r=q 6000 d 10 k q -1/1000;", "-330"},
            {"y / e", "r=q 10 d 1/1000 k d 8000;", "16/239"}};
        for (String[] row : rows) {
            Check.same(row[0] + " alone of " + row[1] + " by " + row[2], kicked(row[1], row[2]).way(0), BIG);
        }
    }

    /** x and y ahead of PART 0 are within the bound; led on, one step alone is beyond it. */
    private static void ledOnStepByStep() {
        Sentence.of(11, "then these are led on PART by PART likewise.)");
        String[][] rows = {
            {"l y", "r=q 20 d 1483 k d -3551;", "-295", "3"}, {"l y", "r=q 5 d -2421 k d -2234;", "-422", "2"},
            {"l y", "r=d -5/4098 d 3 q 2 d 5/4098 k;", "-1/130", "3"},
            {"x + l y", "r=q 148 d -74 k d 6183;", "46", "2"}, {"x + l y", "r=q 134 d 820 k d 997;", "22", "2"},
            {"x + l y", "r=d -60 k d 1 q -2000;", "13/9188", "2"},
            {"f x", "r=d 8 q 110 d 884 q -71 k;", "276", "4"}, {"f x", "r=d -4027 q 307 d 8 q 57 k;", "-7", "4"},
            {"f x", "r=q 500 q 1/1000 k d -700;", "5/7396", "3"},
            {"y - f x", "r=d 382 q 8 d -267 q 10 k;", "-864", "4"}, {"y - f x", "r=d -357 q 1 d 69 q 97 k;", "3086", "4"},
            {"y - f x", "r=q -3387 q 48/5 d 7 k d 1/6;", "50/5813", "1"},
            {"y and its number", "r=d 7 q 266 d 738 k q 53;", "573", "4"},
            {"y and its number", "r=d 2427 q -2 d -730 k q 37;", "-8", "4"},
            {"y and its number", "r=q 13/3 d 2 k q 185/2 d 3281;", "3/370", "3"}};
        for (String[] row : rows) {
            MagnetRing ring = kicked(row[1], row[2]);
            Check.same("way(0) of " + row[1], ring.way(0), 2);
            int above = ring.number(0, 0);
            Check.same(row[0] + " alone of " + row[1], ring.way(Integer.parseInt(row[3])), BIG);
            Check.same("number behind BIG", ring.number(0, 0), above);
        }
    }

    private static void wayAnswers() {
        Sentence.of(11, "THE CLOSED WAY ahead of PART i: 2 numbers, x, y.");
        MagnetRing ring = kicked("r=d 1 q 1 k m;", "1/2");
        long[][] due = {{1, 2, 0, 1}, {1, 2, 0, 1}, {1, 2, -1, 2}, {1, 2, 0, 1}};
        for (int i = 0; i < 4; i++) {
            Check.same("way(" + i + ")", ring.way(i), 2);
            Check.numbers("way(" + i + ")", ring, due[i]);
        }
        ring = Check.ring("r=d 1 q 1;");
        Check.same("way(1) without a KICK", ring.way(1), 2);
        Check.numbers("way(1) without a KICK", ring, 0, 1, 0, 1);
        ring = kicked("r=39*(d 1 d -1)q 1 k;", "1");
        Check.same("e is 0", ring.way(79), NO);
        ring = kicked("r=38*(d 1 d -1)d 1 q 1 k m;", "1/2");
        Check.same("the last of 80 PARTS", ring.way(79), 2);
        Check.numbers("the last of 80 PARTS", ring, 1, 2, 0, 1);
    }

    private static void wayBad() {
        Sentence.of(11, "BAD; BIG, and NO: e is 0, as it comes.");
        MagnetRing ring = kicked("r=d 1 q 1 k m;", "1/2");
        ring.way(2);
        for (int i : Check.beside(0, 3)) {
            Check.same("way(" + i + ")", ring.way(i), BAD);
        }
        Check.numbers("numbers behind BAD", ring, 1, 2, -1, 2);
        Check.same("way(0) without a RING", new MagnetRing().way(0), BAD);
        Check.same("BAD ahead of NO", Check.ring("r=d 1 k;").way(2), BAD);
        Check.same("BAD ahead of BIG", Check.ring("r=40*(d 9999 q 9999);").way(80), BAD);
    }

    /** e would be 0, but something is BIG ahead of it. */
    private static void wayBigAsItComes() {
        Sentence.of(11, "BAD; BIG, and NO: e is 0, as it comes.");
        String[][] rows = {
            {"THE TABLE", "r=d 7532 k d 2/6021 d 68/61;", "0"}, {"THE TABLE", "r=q -1000 d 1000 q 1000 k;", "0"},
            {"f u", "r=d 100 k k d -100 q 800;", "-55/3 -4153"}, {"l v", "r=k k d 8 d 1000;", "4316 -1/618"},
            {"u + l v", "r=k d 1/1000 d 5000;", "741"}, {"v - f u", "r=k q 1000 d -800 q -1000;", "-4581/8"},
            {"v and its number", "r=k k d 1 k;", "1/727 -8204 32/319"}};
        for (String[] row : rows) {
            Check.same(row[0] + " of " + row[1], kicked(row[1], row[2]).way(0), BIG);
        }
        MagnetRing ring = kicked("r=k 20*(d 9999);", "10000");
        Check.same("u is BIG", ring.way(0), BIG);
        ring.kick(0, 0, 1);
        Check.same("e is 0 without it", ring.way(0), NO);
    }

    /** x or y would be BIG, but e is 0 ahead of them. */
    private static void wayNoAsItComes() {
        Sentence.of(11, "BAD; BIG, and NO: e is 0, as it comes.");
        MagnetRing ring = kicked("r=d 1 k;", "1");
        ring.table(0, 1);
        for (int i = 0; i < 2; i++) {
            Check.same("way(" + i + ")", ring.way(i), NO);
        }
        Check.numbers("numbers behind NO", ring, 1, 1, 1, 1, 0, 1, 1, 1);
        Check.same("without numbers", Check.ring("r=d 1 k;").way(0), NO);
        Check.same("b v would be BIG", kicked("r=20*(d 9999)k;", "10000").way(0), NO);
        Check.same("(1 - a) v would be BIG", kicked("r=d 4000 q 40 d -4000 k;", "10000").way(0), NO);
        // e is near 0, on both sides.
        ring = kicked("r=d 1/9999 q 1/9999 k;", "1");
        Check.same("e is 1/99980001", ring.way(0), 2);
        Check.numbers("e is 1/99980001", ring, 9999, 1, 0, 1);
        ring = kicked("r=d 1/9999 q -1/9999 k;", "1");
        Check.same("e is -1/99980001", ring.way(0), 2);
        Check.numbers("e is -1/99980001", ring, -9999, 1, 0, 1);
    }

    private static void answers() {
        Sentence.of(12, "What KICK k with 1, all others 0, does to x of THE CLOSED WAY at LOOK m (from 0): 1 number.");
        MagnetRing ring = kicked(THREE_KICKS, "1/2 -3 7/5");
        long[][] due = {{5, 4, 1, 1, 3, 2}, {11, 16, 5, 4, 9, 8}};
        for (int m = 0; m < 2; m++) {
            for (int k = 0; k < 3; k++) {
                Check.same("answer(" + m + ", " + k + ")", ring.answer(m, k), 1);
                Check.numbers("answer(" + m + ", " + k + ")", ring, due[m][2 * k], due[m][2 * k + 1]);
            }
        }
    }

    /** With 12 KICKS and 12 LOOKS: each answer is what way() tells there for that KICK alone. */
    private static void answersOfAll() {
        Sentence.of(12, "What KICK k with 1, all others 0, does to x of THE CLOSED WAY at LOOK m (from 0): 1 number.");
        String text = "r=11*(k m)d 1 q 1 k d 2 m;";
        for (int k : new int[] {0, 1, 10, 11}) {
            MagnetRing asked = Check.ring(text), kicked = Check.ring(text);
            kicked.kick(k, 1, 1);
            for (int m = 0; m < 12; m++) {
                Check.same("answer(" + m + ", " + k + ")", asked.answer(m, k), 1);
                kicked.way(m < 11 ? 2 * m + 1 : 26);
                Check.numbers("answer(" + m + ", " + k + ")", asked, kicked.number(0, 0), kicked.number(0, 1));
            }
        }
    }

    private static void answerBad() {
        Sentence.of(12, "BAD; BIG, NO as way().");
        MagnetRing ring = Check.ring(THREE_KICKS);
        ring.answer(1, 2);
        for (int m : Check.beside(0, 1)) {
            Check.same("answer(" + m + ", 0)", ring.answer(m, 0), BAD);
        }
        for (int k : Check.beside(0, 2)) {
            Check.same("answer(0, " + k + ")", ring.answer(0, k), BAD);
        }
        Check.numbers("numbers behind BAD", ring, 9, 8);
        Check.same("without a RING", new MagnetRing().answer(0, 0), BAD);
        Check.same("without LOOKS", Check.ring("r=d 1 q 1 k;").answer(0, 0), BAD);
        Check.same("without KICKS", Check.ring("r=d 1 q 1 m;").answer(0, 0), BAD);
        Check.same("BAD ahead of NO", Check.ring("r=d 1 k m;").answer(0, 1), BAD);
        Check.same("BAD ahead of NO", Check.ring("r=d 1 k m;").answer(1, 0), BAD);
        Check.same("BAD ahead of BIG", Check.ring("r=30*(d 9999 q 9999)k m;").answer(1, 0), BAD);
        ring = Check.ring("r=11*(k m)d 1 q 1 k m;");
        Check.same("answer(11, 11)", ring.answer(11, 11), 1);
        Check.same("answer(12, 11)", ring.answer(12, 11), BAD);
        Check.same("answer(11, 12)", ring.answer(11, 12), BAD);
    }

    /** One step alone is beyond the bound, of y as of x, ahead of PART 0 or led on to the LOOK. */
    private static void answerBig() {
        Sentence.of(12, "BAD; BIG, NO as way().");
        String[][] rows = {
            {"THE TABLE", "r=d 5000 q -200 k d -1000 m;"}, {"2 - a", "r=q 577/41 m d 664/570 k d 9/5006;"},
            {"(2 - a) - d", "r=q 8/6285 d 66 m k q 8360;"}, {"1 - d", "r=d 6/2 q 639/276 m d -4620/3721 q 1/481 k;"},
            {"(1 - d) u", "r=m k d 5995/2 q 102;"}, {"b v", "r=k d 5000 q -40 m;"},
            {"(1 - d) u + b v", "r=d 4179 q 48 m d -1946 k d 7845/9;"}, {"x / e", "r=d 493 m q -5549 d -437/3 k;"},
            {"c u", "r=q -5 k d 1000 m q 200;"}, {"(1 - a) v", "r=m k q 10 d 1000 q -100;"},
            {"c u + (1 - a) v", "r=q 19/914 d 367/99 m k d 9/17 q -1419;"}, {"y / e", "r=q 6732/7 m d 27 q -7/12 k d -790;"},
            {"led on, l y", "r=q 9 d 5171 q 590 d -11 k m d 18;"}, {"led on, x + l y", "r=q 4438 d 7509 m k d -64;"},
            {"led on, f x", "r=q 77 d -996 k q -55 q 17 m d -325;"}, {"led on, y - f x", "r=q 9503 m q 5/7 d 7863 k d 34/4;"},
            {"led on, y and its number", "r=q -2 d -2390 q -33 k m q 41 d -6143;"}};
        for (String[] row : rows) {
            MagnetRing ring = Check.ring(row[1]);
            ring.table(0, 0);
            Check.same(row[0] + " alone of " + row[1], ring.answer(0, 0), BIG);
            Check.numbers("numbers behind BIG", ring, 1, 1, 0, 1, 0, 1, 1, 1);
        }
        Check.same("at the bound", Check.ring("r=k d 5000 q 40 m;").answer(0, 0), 1);
    }

    private static void answerNo() {
        Sentence.of(12, "BAD; BIG, NO as way().");
        MagnetRing ring = Check.ring("r=d 1 k m;");
        ring.table(0, 1);
        Check.same("e is 0", ring.answer(0, 0), NO);
        Check.numbers("numbers behind NO", ring, 1, 1, 1, 1, 0, 1, 1, 1);
        Check.same("e is 0 in a long RING", Check.ring("r=k 40*(d 9999)38*(d 9999)m;").answer(0, 0), NO);
        Check.same("BIG ahead of e", Check.ring("r=d 47 m d 1/7769 d 1/3593 k;").answer(0, 0), BIG);
        Check.same("BIG ahead of e", Check.ring("r=k q -1000 d 1000 q 1000 m;").answer(0, 0), BIG);
    }

    private static void answerLeavesKicks() {
        Sentence.of(12, "(KICKS stay.)");
        MagnetRing ring = kicked(THREE_KICKS, "1/2 -3");
        for (int k = 0; k < 3; k++) {
            ring.answer(0, k);
            Check.part(ring, 0, 3, 1, 2);
            Check.part(ring, 3, 3, -3, 1);
            Check.part(ring, 7, 3, 0, 1);
        }
        Check.same("way(0)", ring.way(0), 2);
        Check.numbers("way(0) behind answers", ring, -109, 32, 17, 32);
        ring.answer(1, 0);
        Check.same("way(0) again", ring.way(0), 2);
        Check.numbers("way(0) again", ring, -109, 32, 17, 32);
    }
}
