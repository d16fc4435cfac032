/** THE TEXT and its TOKENS, and promises 1 to 4: a new object, feed, read, place. */
final class TextSentences {
    private static final int BAD = MagnetRing.BAD, NO = MagnetRing.NO, FULL = MagnetRing.FULL, NONE = MagnetRing.NONE;
    private static final int SIGN = Check.SIGN, FORM = Check.FORM, DEEP = Check.DEEP, MANY = Check.MANY;
    private static final int MOST = 1500;

    private TextSentences() {
    }

    static void all() {
        the512thCall();
        newObject();
        newObjectBesideAnother();
        feedAmount();
        feedHighestFirst();
        feedBehindText();
        feedHowMany();
        feedBad();
        feedFull();
        blanksAndLineEnds();
        asManyTokensAsSigns();
        names();
        numbers();
        signsAlone();
        readEmpties();
        readHowManyParts();
        readKicksAreZero();
        readFaults();
        readFaultLeavesRing();
        readTellsPlace();
        placeOfLatest();
        placeFromZero();
        placeOfEnd();
        placeNone();
    }

    private static String blanks(int n) {
        return " ".repeat(n);
    }

    /** Each call in its turn is the last one that is promised an answer. */
    private static void the512thCall() {
        Sentence.of(1, "An object is used for at most 512 calls after it has been made");
        String[] names = {"feed", "read", "place", "part", "kick", "table", "round", "widths", "turns", "way", "answer",
            "bump", "number", "grid", "rows", "after", "count"};
        int[] due = {1, FORM, NONE, 0, 0, 4, 2, 3, 6, 2, 1, NO, 1, 1, 7, 30, 6};
        for (int which = 0; which < names.length; which++) {
            MagnetRing ring = new MagnetRing();
            int calls = 0;
            for (byte b : "r=d 1 q 1 k k k m;".getBytes()) {
                ring.feed(1, b);
                calls++;
            }
            ring.read();
            ring.table(0, 2);
            ring.grid(7);
            for (calls += 3; calls < 511; calls++) {
                ring.place();
            }
            Check.same(names[which] + " as call 512", lastCall(ring, which), due[which]);
        }
    }

    private static int lastCall(MagnetRing ring, int which) {
        switch (which) {
            case 0: return ring.feed(1, 'r');
            case 1: return ring.read();
            case 2: return ring.place();
            case 3: return ring.part(0, 0);
            case 4: return ring.kick(0, 1, 2);
            case 5: return ring.table(0, 1);
            case 6: return ring.round(0);
            case 7: return ring.widths(0);
            case 8: return ring.turns();
            case 9: return ring.way(0);
            case 10: return ring.answer(0, 0);
            case 11: return ring.bump(0, 1, 2);
            case 12: return ring.number(0, 1);
            case 13: return ring.grid(7);
            case 14: return ring.rows(0);
            case 15: return ring.after(7, 3, 5, 3);
            default: return ring.count(1);
        }
    }

    private static void isNew(String what, MagnetRing ring) {
        for (int i = 0; i <= 4; i++) {
            Check.same(what + ", count(" + i + ")", ring.count(i), 0);
        }
        Check.same(what + ", place()", ring.place(), NONE);
        Check.same(what + ", part(0, 0)", ring.part(0, 0), BAD);
        Check.same(what + ", kick(0, 0, 1)", ring.kick(0, 0, 1), BAD);
        Check.same(what + ", table(0, 0)", ring.table(0, 0), BAD);
        Check.same(what + ", round(0)", ring.round(0), BAD);
        Check.same(what + ", widths(0)", ring.widths(0), BAD);
        Check.same(what + ", turns()", ring.turns(), BAD);
        Check.same(what + ", way(0)", ring.way(0), BAD);
        Check.same(what + ", answer(0, 0)", ring.answer(0, 0), BAD);
        Check.same(what + ", bump(0, 1, 2)", ring.bump(0, 1, 2), BAD);
        Check.same(what + ", number(0, 0)", ring.number(0, 0), NONE);
        Check.same(what + ", grid(3)", ring.grid(3), BAD);
        Check.rows(what, ring, NONE, NONE, NONE, NONE);
        Check.same(what + ", after(3, 0, 0, 0)", ring.after(3, 0, 0, 0), BAD);
        Check.same(what + ", read()", ring.read(), FORM);
        Check.same(what + ", place() behind it", ring.place(), 0);
    }

    private static void newObject() {
        Sentence.of(1, "No TEXT, no RING.");
        isNew("a new object", new MagnetRing());
    }

    private static void newObjectBesideAnother() {
        Sentence.of(1, "No TEXT, no RING.");
        MagnetRing used = Check.ring("r=d 1 q 1 k m;");
        used.table(0, 1);
        used.grid(5);
        Check.feed(used, "a=k;");
        MagnetRing fresh = new MagnetRing();
        isNew("a new object beside a used one", fresh);
        Check.same("read of the new one", Check.read(fresh, "r=k k;"), 2);
        Check.same("count(0) of the used one", used.count(0), 4);
        Check.same("count(1) of the used one", used.count(1), 4);
        Check.same("rows(0) of the used one", used.rows(0), 5);
    }

    private static void feedAmount() {
        Sentence.of(2, "n (1 to 8) bytes of v");
        for (int n = 1; n <= 8; n++) {
            Check.same("feed(" + n + ")", new MagnetRing().feed(n, -1L), n);
        }
        for (int n : Check.beside(1, 8)) {
            MagnetRing ring = new MagnetRing();
            Check.same("feed(" + n + ")", ring.feed(n, 'k'), BAD);
            Check.same("count(0) behind feed(" + n + ")", ring.count(0), 0);
        }
    }

    private static void feedHighestFirst() {
        Sentence.of(2, ", the highest of these first,");
        String text = "ab=d 12;";
        for (int n = 1; n <= 8; n++) {
            long v = 0;
            for (int i = 0; i < n; i++) {
                v = v << 8 | text.charAt(i);
            }
            // What stands above the n bytes is no part of them, whatever it is.
            long above = n == 8 ? 0 : -1L << 8 * n;
            MagnetRing whole = new MagnetRing();
            whole.feed(n, v | above);
            for (int i = n; i < 8; i++) {
                whole.feed(1, text.charAt(i));
            }
            Check.same("read with " + n + " bytes at once", whole.read(), 1);
            Check.part(whole, 0, 0, 12, 1);
        }
        MagnetRing ring = new MagnetRing();
        ring.feed(8, 0xff723d6b3b000080L);
        Check.same("read with 255 as the highest of 8", ring.read(), SIGN);
        Check.same("its place", ring.place(), 0);
        ring.feed(7, 0xff723d6b3b000080L);
        Check.same("read of the 7 bytes below that", ring.read(), SIGN);
        Check.same("its place", ring.place(), 4);
        ring.feed(5, 0x723d6b3b80L);
        Check.same("read with 128 as the lowest", ring.read(), SIGN);
        Check.same("its place", ring.place(), 4);
    }

    private static void feedBehindText() {
        Sentence.of(2, "come behind THE TEXT");
        MagnetRing ring = new MagnetRing();
        ring.feed(3, 0x723d64L);
        ring.feed(1, '1');
        ring.feed(2, '2' << 8 | '/');
        ring.feed(3, '3' << 16 | 'q' << 8 | '4');
        ring.feed(1, ';');
        Check.same("read of r=d12/3q4;", ring.read(), 2);
        Check.part(ring, 0, 0, 4, 1);
        Check.part(ring, 1, 1, 4, 1);
    }

    private static void feedHowMany() {
        Sentence.of(2, "how many it has.");
        MagnetRing ring = new MagnetRing();
        int has = 0;
        for (int i = 0; has < MOST; i++) {
            int n = Math.min(1 + i % 8, MOST - has);
            has += n;
            Check.same("feed of " + n, ring.feed(n, ' '), has);
        }
        Check.same("count(0)", ring.count(0), MOST);
    }

    private static void feedBad() {
        Sentence.of(2, "BAD; FULL: 1500.");
        MagnetRing ring = new MagnetRing();
        Check.feed(ring, blanks(MOST - 4) + "r=k;");
        for (int n : Check.beside(1, 8)) {
            Check.same("feed(" + n + ") of a full TEXT", ring.feed(n, ' '), BAD);
        }
        Check.same("count(0)", ring.count(0), MOST);
        Check.same("read of the full TEXT", ring.read(), 1);
    }

    /** For each n: room for n bytes is enough, room for one less is not. */
    private static void feedFull() {
        Sentence.of(2, "BAD; FULL: 1500.");
        for (int n = 1; n <= 8; n++) {
            MagnetRing ring = new MagnetRing();
            Check.feed(ring, "r=k;" + blanks(MOST - 4 - n));
            Check.same("feed(" + n + ") up to 1500", ring.feed(n, 0x2020202020202020L), MOST);
            Check.same("feed(1) behind it", ring.feed(1, '$'), FULL);
            Check.same("feed(8) behind it", ring.feed(8, '$'), FULL);
            Check.same("count(0) behind it", ring.count(0), MOST);
            Check.same("read of 1500 bytes", ring.read(), 1);
            Check.same("feed(" + n + ") behind read", ring.feed(n, ' '), n);

            ring = new MagnetRing();
            Check.feed(ring, "r=k;" + blanks(MOST - 3 - n));
            Check.same("feed(" + n + ") up to 1501", ring.feed(n, -1L), FULL);
            Check.same("count(0) behind it", ring.count(0), MOST + 1 - n);
            Check.same("read without them", ring.read(), 1);
        }
    }

    private static void blanksAndLineEnds() {
        Sentence.of(3, "THE TEXT is rows of TOKENS, parted by blanks (32) and line ends (10) if they like");
        Check.fine("r=d1q2k m;", 4);
        Check.fine("\n r\n=\n d\n1 / 2 \n;\n ", 1);
        Check.fine(blanks(MOST - 4) + "r=k;", 1);
        Check.fine("\n".repeat(MOST - 4) + "r=k;", 1);
        Check.fine("r=k;" + " \n".repeat((MOST - 4) / 2), 1);
        Check.fine("r=d1 2*(k);", 3);
        Check.fault("r=d12*(k);", FORM, 5);
        Check.fine("r=k m;", 2);
        Check.fault("r=km;", FORM, 2);
        Check.fine("ab=k;r=ab;", 1);
        Check.fault("a b=k;", FORM, 2);
        Check.fault("r=d 1 2;", FORM, 7);
    }

    /** No TEXT has more TOKENS than one that is full of such as are one sign long. */
    private static void asManyTokensAsSigns() {
        Sentence.of(3, "THE TEXT is rows of TOKENS, parted by blanks (32) and line ends (10) if they like");
        StringBuilder text = new StringBuilder();
        for (char name : "abcefghij".toCharArray()) {
            text.append(name).append('=').append("s1".repeat(80)).append(';');
        }
        String lines = text.toString();
        Check.same("signs of the lines", lines.length(), 1467);
        Check.fine(lines + "r=" + "s1".repeat(15) + ";", 15);
        Check.fault(lines + "r=" + "s1".repeat(15) + "k", FORM, MOST);
        Check.fault(lines + "r=" + "s1".repeat(15) + "$", SIGN, MOST - 1);
        Check.fault(lines + "r=" + "s1".repeat(15) + "=", FORM, MOST - 1);
    }

    private static void names() {
        Sentence.of(3, "NAMES (small letters, 8 at most)");
        Check.fine("a=k;z=a;", 1);
        Check.fine("abcdefgh=k;r=abcdefgh abcdefgh;", 2);
        Check.fine("stuvwxyz=k;zzzzzzzz=stuvwxyz;", 1);
        Check.fault("abcdefghi=k;", SIGN, 0);
        Check.fault("r=k abcdefghi;", SIGN, 4);
        Check.fault("r=k " + "z".repeat(1400), SIGN, 4);
        // Every letter counts, the first and the eighth too, and so does how many there are.
        Check.fault("abcdefgh=k;r=abcdefgi;", FORM, 13);
        Check.fault("abcdefgh=k;r=bbcdefgh;", FORM, 13);
        Check.fault("abcdefgh=k;r=abcdefg;", FORM, 13);
        Check.fine("a=k;aa=a;aaa=aa a;aaaaaaaa=aaa aa;", 3);
        Check.fine("dd=k;kk=dd;mm=kk;ss=mm;qq=ss;dq=qq;", 1);
        for (String notSmall : new String[] {"R", "Z", "@", "[", "`", "{", "_", "\u00e4"}) {
            Check.fault(notSmall + "=k;", SIGN, 0);
            Check.fault("r" + notSmall + "=k;", SIGN, 1);
        }
    }

    private static void numbers() {
        Sentence.of(3, "NUMBERS (1 to 4 figures)");
        MagnetRing ring = Check.ring("r=d 0 d 9 d 10 d 999 d 1000 d 9999 d 0001 d 0/9999 s 9999;");
        int[] due = {0, 9, 10, 999, 1000, 9999, 1, 0, 9999};
        for (int i = 0; i < due.length; i++) {
            Check.same("part(" + i + ", 1)", ring.part(i, 1), due[i]);
        }
        Check.fine("r=0040*(d 1);", 40);
        Check.fault("r=d 10000;", SIGN, 4);
        Check.fault("r=d 00001;", SIGN, 4);
        Check.fault("r=d 1/10000;", SIGN, 6);
        Check.fault("r=s -12345;", SIGN, 5);
        Check.fault("r=00040*(d 1);", SIGN, 2);
        Check.fault("r=d " + "0".repeat(1400), SIGN, 4);
        Check.fault("r=d :;", SIGN, 4);
        Check.fault("r=d 1.5;", SIGN, 5);
        Check.fine("r=d 9 8*(k)7*(m);", 16);
    }

    /** Each of the 256 bytes behind a whole ITEM. */
    private static void signsAlone() {
        Sentence.of(3, "and each of = ; ( ) * / - alone.");
        for (int sign = 0; sign < 256; sign++) {
            String text = "r=k" + (char) sign + ";";
            if (sign == ' ' || sign == '\n') {
                Check.fine(text, 1);
            } else if (sign >= 'a' && sign <= 'z') {
                Check.fault(text, FORM, 2);
            } else if (sign >= '1' && sign <= '9' || sign == ';') {
                Check.fault(text, FORM, 4);
            } else if (sign == '0' || "=()*/-".indexOf(sign) >= 0) {
                Check.fault(text, FORM, 3);
            } else {
                Check.fault(text, SIGN, 3);
            }
        }
        Check.fine("r=2*(d-1/2q-3)s-4;", 5);
        Check.fault("r=q--1;", FORM, 4);
        Check.fault("r=k;;", FORM, 4);
        Check.fault("r==k;", FORM, 2);
        Check.fault("r=2**(k);", FORM, 4);
        Check.fault("r=2*((k));", FORM, 5);
        Check.fault("r=d 1//2;", FORM, 6);
    }

    private static void readEmpties() {
        Sentence.of(3, "THE TEXT is read, and empty then");
        for (String text : new String[] {"r=k;", "r=$", "r=;", "r=13*(k);", " ", ""}) {
            MagnetRing ring = new MagnetRing();
            Check.feed(ring, text);
            Check.same("count(0) ahead of read", ring.count(0), text.length());
            ring.read();
            Check.same("count(0) behind read of " + text, ring.count(0), 0);
            Check.same("read again", ring.read(), FORM);
            Check.same("place again", ring.place(), 0);
            Check.same("feed behind read", ring.feed(4, 0x723d6b3bL), 4);
            Check.same("read of what was fed", ring.read(), 1);
        }
        // Names of an earlier TEXT are not told in the next one.
        MagnetRing ring = Check.ring("a=k;b=a;");
        Check.same("a name told ahead", Check.read(ring, "r=a;"), FORM);
        Check.same("its place", ring.place(), 2);
        Check.same("it may be told anew", Check.read(ring, "a=m m;"), 2);
        Check.read(ring, "r=1*(1*(d -1");
        Check.same("nothing is open behind a fault", Check.read(ring, "r=q 1;"), 1);
        Check.part(ring, 0, 1, 1, 1);
        Check.same("12 KICKS and LOOKS", Check.read(ring, "r=12*(k m);"), 24);
        Check.same("as many again", Check.read(ring, "r=12*(m k);"), 24);
        Check.same("too many", Check.read(ring, "r=13*(m);"), MANY);
        Check.same("few behind too many", Check.read(ring, "r=k m;"), 2);
        Check.same("count(2)", ring.count(2), 1);
        Check.same("count(3)", ring.count(3), 1);
    }

    private static void readHowManyParts() {
        Sentence.of(3, "how many PARTS THE RING has");
        Check.fine("r=m;", 1);
        Check.fine("a=40*(d 1);r=a k;", 41);
        Check.fine("r=40*(d 1 q 1);", 80);
        Check.fine("a=40*(d 1 q 1);r=k;", 1);
    }

    private static void readKicksAreZero() {
        Sentence.of(3, "KICKS are 0 then.");
        MagnetRing ring = Check.ring("r=12*(k);");
        for (int k = 0; k < 12; k++) {
            ring.kick(k, k + 1, 7);
        }
        Check.same("read", Check.read(ring, "r=12*(k);"), 12);
        for (int k = 0; k < 12; k++) {
            Check.part(ring, k, 3, 0, 1);
        }
    }

    private static void readFaults() {
        Sentence.of(3, "-10 less its FAULT");
        Check.fault("$", -11, 0);
        Check.fault("", -12, 0);
        Check.fault("r=" + "1*(".repeat(7), -13, 22);
        Check.fault("r=13*(k);", -14, 8);
    }

    private static void readFaultLeavesRing() {
        Sentence.of(3, "(THE RING that there is stays)");
        String[] texts = {"a=m;b=$", "a=m;b=;", "a=m;b=" + "1*(".repeat(7), "a=m;b=13*(m);", ""};
        int[] faults = {SIGN, FORM, DEEP, MANY, FORM};
        for (int i = 0; i < texts.length; i++) {
            MagnetRing ring = Check.ring("r=k d 2/4 m;");
            ring.kick(0, 5, 10);
            ring.grid(5);
            ring.table(0, 3);
            String before = State.of(ring);
            Check.same("faulty read", Check.read(ring, texts[i]), faults[i]);
            Check.holds("place() is told", ring.place() >= 0);
            Check.alike("all else", State.withoutPlace(State.of(ring)), State.withoutPlace(before));
        }
        MagnetRing none = new MagnetRing();
        Check.same("a line is fine, the next is not", Check.read(none, "a=m;b=$"), SIGN);
        Check.same("count(1) stays 0", none.count(1), 0);
        Check.same("part(0, 0) stays BAD", none.part(0, 0), BAD);
        Check.same("turns() stays BAD", none.turns(), BAD);
    }

    private static void readTellsPlace() {
        Sentence.of(3, ": place().");
        Check.fault("r=k $", SIGN, 4);
        Check.fault("r=k =", FORM, 4);
    }

    private static void placeOfLatest() {
        Sentence.of(4, "Where the latest FAULT of read() is");
        MagnetRing ring = new MagnetRing();
        Check.read(ring, "r=d $");
        Check.same("place()", ring.place(), 4);
        Check.same("place() again", ring.place(), 4);
        Check.feed(ring, "r=");
        Check.same("place() behind feed", ring.place(), 4);
        Check.read(ring, ";");
        Check.same("place() of the next one", ring.place(), 2);
    }

    private static void placeFromZero() {
        Sentence.of(4, "(a place in THE TEXT, from 0;");
        Check.fault("$", SIGN, 0);
        Check.fault("=", FORM, 0);
        Check.fault("   $", SIGN, 3);
        Check.fault("r=k;" + blanks(MOST - 5) + "$", SIGN, MOST - 1);
        Check.fault("r=k;" + blanks(MOST - 5) + "=", FORM, MOST - 1);
        Check.fault("r=13*(k)" + blanks(MOST - 9) + ";", MANY, MOST - 1);
    }

    private static void placeOfEnd() {
        Sentence.of(4, "the end: how many there were)");
        Check.fault("", FORM, 0);
        Check.fault("r", FORM, 1);
        Check.fault("r=k", FORM, 3);
        Check.fault("r=k \n", FORM, 5);
        Check.fault(blanks(MOST), FORM, MOST);
        Check.fault("r=k" + blanks(MOST - 3), FORM, MOST);
    }

    private static void placeNone() {
        Sentence.of(4, "NONE behind a read() without.");
        MagnetRing ring = new MagnetRing();
        Check.same("ahead of any read()", ring.place(), NONE);
        ring.read();
        Check.same("behind a fault", ring.place(), 0);
        Check.read(ring, "r=k;");
        Check.same("behind a read() without", ring.place(), NONE);
        Check.feed(ring, "$");
        Check.same("a fault that is not read yet", ring.place(), NONE);
    }
}
