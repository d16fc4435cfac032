/** FAULTS of THE TEXT, as read() and place() tell them: promises 3 and 4. */
final class FaultSentences {
    private static final int SIGN = Check.SIGN, FORM = Check.FORM, DEEP = Check.DEEP, MANY = Check.MANY;

    private FaultSentences() {
    }

    static void all() {
        firstOneFound();
        firstOfSeveralLines();
        sign();
        signAtItsFirst();
        formEverywhere();
        formAtEnd();
        formNotTold();
        formToldAgain();
        formTimes();
        formBelow();
        deep();
        deepIsOfOpenOnes();
        manyParts();
        manyKicks();
        manyLooks();
        manyAtItsEnd();
        manyOfAnyLine();
        endWithoutLine();
    }

    private static String seven() {
        return "1*(".repeat(7);
    }

    private static void firstOneFound() {
        Sentence.of(3, "FAULTS, the first one that is found, token by token:");
        // Two faults in each, the later one of a lower or a higher number.
        Check.fault("r=x $;", FORM, 2);
        Check.fault("r=$ x;", SIGN, 2);
        Check.fault("r=0*($);", FORM, 2);
        Check.fault("r=" + seven() + "$", DEEP, 22);
        Check.fault("r=" + seven() + ";", DEEP, 22);
        Check.fault("r=13*(k)$;", SIGN, 8);
        Check.fault("r=13*(k)/;", FORM, 8);
        Check.fault("r=13*(k)" + seven(), DEEP, 28);
        Check.fault("r=13*(k);$", MANY, 8);
        Check.fault("r=13*(k);=", MANY, 8);
        Check.fault("r=13*(k)", FORM, 8);
        // A token that is none is SIGN, also where no token of its kind could stand.
        Check.fault("r=k 12345", SIGN, 4);
        Check.fault("r abcdefghi", SIGN, 2);
        Check.fault("r=d abcdefghi", SIGN, 4);
        Check.fault("r=" + "1*(".repeat(6) + "1*$", SIGN, 22);
    }

    private static void firstOfSeveralLines() {
        Sentence.of(3, "FAULTS, the first one that is found, token by token:");
        Check.fault("a=;b=$;c=13*(k);", FORM, 2);
        Check.fault("a=k;b=$;c=;", SIGN, 6);
        Check.fault("a=13*(m);b=13*(k);", MANY, 8);
        Check.fault("a=k;b=13*(k);a=k;", MANY, 12);
    }

    private static void sign() {
        Sentence.of(3, "1 SIGN: no token");
        for (char c : new char[] {0, 9, 11, 13, 31, 33, '"', '#', '$', '%', '&', '\'', '+', ',', '.', ':', '<', '>', '?',
            '@', 'A', 'D', 'Z', '[', '\\', ']', '^', '_', '`', '{', '|', '}', '~', 127, 128, 160, 255}) {
            Check.fault("r=k " + c, SIGN, 4);
            Check.fault("" + c, SIGN, 0);
            Check.fault("r=k;" + c, SIGN, 4);
        }
    }

    private static void signAtItsFirst() {
        Sentence.of(3, "(also a NAME of 9 letters, a NUMBER of 5 figures; at its first sign).");
        Check.fault("abcdefghi=k;", SIGN, 0);
        Check.fault("r=  abcdefghijkl;", SIGN, 4);
        Check.fault("r=d  12345;", SIGN, 5);
        Check.fault("r=d 1/00000;", SIGN, 6);
        Check.fault("r=s-123456789;", SIGN, 4);
        // A NAME goes on as long as letters do, a NUMBER as long as figures do.
        Check.fault("r=kkkkkkkkk;", SIGN, 2);
        Check.fault("r=kkkkkkkk;", FORM, 2);
        Check.fine("r=d 1234q 1234;", 2);
    }

    /** What may stand behind each kind of beginning: of x (told), z (not told), the others and the end "". */
    private static void formEverywhere() {
        Sentence.of(3, "2 FORM: a token that can't stand there,");
        String item = "x d q s k m 1";
        String[][] rows = {
            {"", "x z"}, {"x = k ;", "z END"}, {"x = k ; y = k ;", "z END"},
            {"x = k ; y", "="}, {"x = k ; y =", item},
            {"x = k ; y = d", "- 0 1 41"}, {"x = k ; y = d -", "0 1 41"},
            {"x = k ; y = d 1", item + " / ;"}, {"x = k ; y = d - 1", item + " / ;"},
            {"x = k ; y = d 1 /", "1 41"}, {"x = k ; y = d - 1 /", "1 41"}, {"x = k ; y = d 1 / 2", item + " ;"},
            {"x = k ; y = q", "- 0 1 41"}, {"x = k ; y = q -", "0 1 41"}, {"x = k ; y = q 1", item + " / ;"},
            {"x = k ; y = q 1 /", "1 41"}, {"x = k ; y = q 1 / 2", item + " ;"},
            {"x = k ; y = s", "- 0 1 41"}, {"x = k ; y = s -", "0 1 41"}, {"x = k ; y = s 1", item + " ;"},
            {"x = k ; y = s - 1", item + " ;"},
            {"x = k ; y = k", item + " ;"}, {"x = k ; y = m", item + " ;"}, {"x = k ; y = x", item + " ;"},
            {"x = k ; y = 2", "*"}, {"x = k ; y = 2 *", "("}, {"x = k ; y = 2 * (", item},
            {"x = k ; y = 2 * ( k", item + " )"}, {"x = k ; y = 2 * ( x", item + " )"},
            {"x = k ; y = 2 * ( d 1", item + " / )"}, {"x = k ; y = 2 * ( d 1 / 2", item + " )"},
            {"x = k ; y = 2 * ( s 1", item + " )"}, {"x = k ; y = 2 * ( 2 * (", item},
            {"x = k ; y = 2 * ( 2 * ( k )", item + " )"}, {"x = k ; y = 2 * ( k )", item + " ;"}};
        for (String[] row : rows) {
            for (String token : "x z d q s k m 0 1 41 = ; ( ) * / - END".split(" ")) {
                boolean may = (" " + row[1] + " ").contains(" " + token + " ");
                standsBehind(row[0], token.equals("END") ? "" : token, may);
            }
        }
    }

    private static void standsBehind(String beginning, String token, boolean may) {
        String text = beginning + " " + token;
        int place = beginning.length() + 1;
        MagnetRing ring = new MagnetRing();
        int answer = Check.read(ring, text);
        if (may) {
            Check.holds("no fault at " + place + " of " + text, answer > 0 || ring.place() > place);
        } else {
            Check.same("read of " + text, answer, FORM);
            Check.same("place of " + text, ring.place(), place);
        }
    }

    private static void formAtEnd() {
        Sentence.of(3, "or the end");
        for (String text : new String[] {"r", "r=", "r=d", "r=d -", "r=d 1", "r=d 1/", "r=d 1/2", "r=s", "r=s -", "r=s 1",
            "r=k", "r=m", "r=2", "r=2*", "r=2*(", "r=2*(k", "r=2*(k)", "a=k;r", "a=k;r=a"}) {
            Check.fault(text, FORM, text.length());
            Check.fault(text + " \n ", FORM, text.length() + 3);
        }
        Check.fine("r=2*(k);", 2);
    }

    private static void formNotTold() {
        Sentence.of(3, "(a NAME that is not told,");
        Check.fault("r=x;", FORM, 2);
        Check.fault("r=r;", FORM, 2);
        Check.fault("r=k r;", FORM, 4);
        Check.fault("a=b;b=k;", FORM, 2);
        Check.fault("a=k;b=aa;", FORM, 6);
        Check.fault("aa=k;b=a;", FORM, 7);
        Check.fault("a=k;r=2*(a x);", FORM, 11);
    }

    private static void formToldAgain() {
        Sentence.of(3, "or told again;");
        Check.fault("a=k;a=m;", FORM, 4);
        Check.fault("a=k;b=m;a=m;", FORM, 8);
        Check.fault("abcdefgh=k;abcdefgh=k;", FORM, 11);
        Check.fault("a=k;a", FORM, 4);
        Check.fine("a=k;b=a;c=a a;", 2);
    }

    private static void formTimes() {
        Sentence.of(3, "N of times 0 or above 40;");
        Check.fault("r=0*(d 1);", FORM, 2);
        Check.fault("r=0000*(d 1);", FORM, 2);
        Check.fine("r=1*(d 1);", 1);
        Check.fine("r=40*(d 1);", 40);
        Check.fault("r=41*(d 1);", FORM, 2);
        Check.fault("r=9999*(d 1);", FORM, 2);
        Check.fault("r=256*(d 1);", FORM, 2);
        Check.fault("r=k 2*(41*(d 1));", FORM, 7);
        Check.fault("r=k 2*(0*(d 1));", FORM, 7);
        // It is N that can't stand there, whatever is behind it.
        Check.fault("r=0;", FORM, 2);
        Check.fault("r=41;", FORM, 2);
        Check.fault("r=0$", FORM, 2);
        Check.fault("r=1;", FORM, 3);
    }

    private static void formBelow() {
        Sentence.of(3, "below 0 / stands 0).");
        Check.fault("r=d 1/0;", FORM, 6);
        Check.fault("r=q 1/0;", FORM, 6);
        Check.fault("r=q -1/0000;", FORM, 7);
        Check.fault("r=d 0/0;", FORM, 6);
        Check.fine("r=d 0/1;", 1);
        Check.fine("r=d 1/1 q 0/9999;", 2);
    }

    private static void deep() {
        Sentence.of(3, "3 DEEP: a ( within 6 open ones.");
        for (int open = 1; open <= 6; open++) {
            Check.fine("r=" + "1*(".repeat(open) + "k" + ")".repeat(open) + ";", 1);
        }
        for (int open = 7; open <= 10; open++) {
            Check.fault("r=" + "1*(".repeat(open) + "k" + ")".repeat(open) + ";", DEEP, 22);
        }
        Check.fault("r=k " + "2 * ( k ".repeat(7), DEEP, 56);
        Check.fault("r=" + "1*(".repeat(6) + "1(", FORM, 21);
        Check.fault("r=" + "1*(".repeat(6) + "(", FORM, 20);
    }

    private static void deepIsOfOpenOnes() {
        Sentence.of(3, "3 DEEP: a ( within 6 open ones.");
        String six = "1*(".repeat(6), closed = ")".repeat(6);
        // Those that are closed are open no more, and those of a told NAME are not open where it is used.
        Check.fine("r=" + "1*(k)".repeat(9) + ";", 9);
        Check.fine("r=" + six + "k)1*(k" + closed + ";", 2);
        Check.fault("r=" + six + "k)1*(1*(k", DEEP, 27);
        Check.fine("a=" + six + "k" + closed + ";r=" + six + "a" + closed + ";", 1);
        Check.fine("a=" + six + "k" + closed + ";b=" + six + "k" + closed + ";", 1);
    }

    private static void manyParts() {
        Sentence.of(3, "4 MANY: a line comes to more than 80 PARTS,");
        Check.fine("r=" + "s1".repeat(80) + ";", 80);
        Check.fault("r=" + "s1".repeat(81) + ";", MANY, 164);
        Check.fine("r=2*(40*(d 1));", 80);
        Check.fault("r=2*(40*(d 1))d 1;", MANY, 17);
        Check.fault("r=d 1 2*(40*(d 1));", MANY, 18);
        Check.fine("r=27*(d 1 q 1);", 54);
        Check.fault("r=27*(d 1 q 1 s 1);", MANY, 18);
        Check.fault("r=40*(40*(40*(40*(40*(40*(d 1))))));", MANY, 35);
        Check.fine("a=40*(d 1);r=a a;", 80);
        Check.fault("a=40*(d 1);r=a a d 1;", MANY, 20);
        Check.fault("a=40*(d 1);r=2*(a)a;", MANY, 19);
        Check.fine("r=12*(k m)28*(d 1 q 1);", 80);
        Check.fault("r=12*(k m)28*(d 1 q 1)s 1;", MANY, 25);
    }

    private static void manyKicks() {
        Sentence.of(3, "12 KICKS, 12 LOOKS (at its ;).");
        Check.fine("r=" + "k ".repeat(12) + ";", 12);
        Check.fault("r=" + "k ".repeat(13) + ";", MANY, 28);
        Check.fine("r=12*(k);", 12);
        Check.fault("r=13*(k);", MANY, 8);
        Check.fine("r=3*(2*(k k));", 12);
        Check.fault("r=3*(2*(k k))k;", MANY, 14);
        Check.fine("a=7*(k);b=5*(k);r=a b;", 12);
        Check.fault("a=7*(k);b=6*(k);r=a b;", MANY, 21);
        Check.fine("r=12*(k m);", 24);
        Check.fault("r=12*(k m)k;", MANY, 11);
    }

    private static void manyLooks() {
        Sentence.of(3, "12 KICKS, 12 LOOKS (at its ;).");
        Check.fine("r=" + "m ".repeat(12) + ";", 12);
        Check.fault("r=" + "m ".repeat(13) + ";", MANY, 28);
        Check.fine("r=12*(m);", 12);
        Check.fault("r=13*(m);", MANY, 8);
        Check.fault("r=12*(k m)m;", MANY, 11);
        Check.fine("a=7*(m);b=5*(m);r=a b;", 12);
        Check.fault("a=7*(m);b=6*(m);r=a b;", MANY, 21);
        // Other PARTS are neither.
        Check.fine("r=40*(s 1 s 1);", 80);
        Check.fine("r=40*(d 1 q 1);", 80);
    }

    private static void manyAtItsEnd() {
        Sentence.of(3, "(at its ;).");
        Check.fault("r=13*(k) ;", MANY, 9);
        Check.fault("r=13*(k) d 1 \n ;", MANY, 15);
        Check.fault("r=1*(13*(k));", MANY, 12);
        Check.fault("r=13*(k)k k m d 1", FORM, 17);
    }

    private static void manyOfAnyLine() {
        Sentence.of(3, "4 MANY: a line comes to more than 80 PARTS,");
        Check.fault("a=13*(k);r=d 1;", MANY, 8);
        Check.fault("a=d 1;b=40*(s 1 s 1)a;r=a;", MANY, 21);
        // All lines together may come to more.
        Check.fine("a=12*(k);b=12*(m);c=40*(d 1 q 1);r=d 1;", 1);
        Check.fine("a=12*(k);b=12*(k);r=12*(k);", 12);
    }

    private static void endWithoutLine() {
        Sentence.of(3, "At the end, without a line, 2.");
        Check.fault("", FORM, 0);
        Check.fault(" ", FORM, 1);
        Check.fault(" \n \n", FORM, 4);
        Check.fault("\n".repeat(1500), FORM, 1500);
        Check.fine("r=k; \n", 1);
    }
}
