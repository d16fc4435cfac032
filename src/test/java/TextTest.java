/** Promises 1 to 6 and 18: a new object, feed, read, place, part, kick, count. */
public final class TextTest {
    private static final int SIGN = -11, FORM = -12, DEEP = -13, MANY = -14;

    public static void main(String[] args) {
        newObject();
        feeding();
        feedingFull();
        tokens();
        signFaults();
        formFaults();
        timesFaults();
        nameFaults();
        deepFaults();
        manyFaults();
        firstFaultWins();
        faultLeavesRing();
        readsAnew();
        manyLines();
        expansion();
        parts();
        kicks();
        counts();
        Check.finish();
    }

    private static void fault(String text, int answer, int place) {
        MagnetRing ring = new MagnetRing();
        Check.same("read of " + text, Check.read(ring, text), answer);
        Check.same("place of " + text, ring.place(), place);
        Check.same("count(0) behind " + text, ring.count(0), 0);
        Check.same("count(1) behind " + text, ring.count(1), 0);
    }

    private static void fine(String text, int parts) {
        MagnetRing ring = new MagnetRing();
        Check.same("read of " + text, Check.read(ring, text), parts);
        Check.same("place of " + text, ring.place(), MagnetRing.NONE);
        Check.same("count(0) behind " + text, ring.count(0), 0);
        Check.same("count(1) behind " + text, ring.count(1), parts);
    }

    private static String times(String text, int n) {
        return text.repeat(n);
    }

    private static void newObject() {
        MagnetRing ring = new MagnetRing();
        Check.same("place() at first", ring.place(), MagnetRing.NONE);
        for (int what = 0; what <= 4; what++) {
            Check.same("count(" + what + ") at first", ring.count(what), 0);
        }
        Check.same("part at first", ring.part(0, 0), MagnetRing.BAD);
        Check.same("kick at first", ring.kick(0, 0, 1), MagnetRing.BAD);
        Check.same("number at first", ring.number(0, 0), MagnetRing.NONE);
        Check.same("rows at first", ring.rows(0), MagnetRing.NONE);
        Check.same("turns at first", ring.turns(), MagnetRing.BAD);
        Check.same("read of nothing", ring.read(), FORM);
        Check.same("place of nothing", ring.place(), 0);
    }

    private static void feeding() {
        MagnetRing ring = new MagnetRing();
        int[] wrong = {Integer.MIN_VALUE, -1, 0, 9, Integer.MAX_VALUE};
        for (int n : wrong) {
            Check.same("feed(" + n + ")", ring.feed(n, 'k'), MagnetRing.BAD);
        }
        Check.same("count(0) behind wrong feeds", ring.count(0), 0);
        // The bytes above the n lowest are left aside.
        Check.same("feed r", ring.feed(1, 0x7a7a7a7a7a7a7a72L), 1);
        Check.same("feed =k", ring.feed(2, 0xffff3d6bL), 3);
        Check.same("feed ;", ring.feed(1, -256L | ';'), 4);
        Check.same("read of r=k;", ring.read(), 1);
        Check.same("its kind", ring.part(0, 0), 3);
        // A byte is one of 256: 0x80 and more are no tokens, and stand where they stand.
        ring.feed(8, 0x723d6bff80003b3bL);
        Check.same("read with byte 255", ring.read(), SIGN);
        Check.same("its place", ring.place(), 3);
    }

    private static void feedingFull() {
        MagnetRing ring = new MagnetRing();
        for (int i = 0; i < 187; i++) {
            ring.feed(8, 0x2020202020202020L);
        }
        Check.same("count(0)", ring.count(0), 1496);
        Check.same("feed of 5 more", ring.feed(5, 0x723d6b3b3bL), MagnetRing.FULL);
        Check.same("count(0) behind FULL", ring.count(0), 1496);
        Check.same("feed(9) when full", ring.feed(9, 0), MagnetRing.BAD);
        Check.same("feed of 4 more", ring.feed(4, 0x723d6b3bL), 1500);
        Check.same("feed of 1 more", ring.feed(1, ' '), MagnetRing.FULL);
        Check.same("feed(0) when full", ring.feed(0, ' '), MagnetRing.BAD);
        Check.same("read of 1500 bytes", ring.read(), 1);
        Check.same("feed behind read", ring.feed(1, ' '), 1);
    }

    private static void tokens() {
        fine("r=k;", 1);
        fine("\n r\n=\n d\n1 / 2 \n;\n ", 1);
        fine("r=d1q2k m;", 4);
        fine("abcdefgh=k;r=abcdefgh abcdefgh;", 2);
        fine("r=d 9999 q 0009/0001;", 2);
        fine("r=2*(k)3*(m);", 5);
        fine("dd=k;kk=dd;mm=kk;ss=mm;qq=ss;", 1);
        fault("r=km;", FORM, 2);
        fault("r=d1 0;", FORM, 5);
    }

    private static void signFaults() {
        fault("$", SIGN, 0);
        fault("r\t=k;", SIGN, 1);
        fault("r=k\r;", SIGN, 3);
        fault("R=k;", SIGN, 0);
        fault("r=k+m;", SIGN, 3);
        fault("r=k\u00e9;", SIGN, 3);
        fault("r=k\u0000;", SIGN, 3);
        fault("r=k;{", SIGN, 4);
        fault("r=k;`", SIGN, 4);
        fault("r=k:", SIGN, 3);
        fault("abcdefghi=k;", SIGN, 0);
        fault("r=k  abcdefghijkl", SIGN, 5);
        fault("r=d 00000;", SIGN, 4);
        fault("r=d 1/10000;", SIGN, 6);
        fault("r=s -12345;", SIGN, 5);
    }

    private static void formFaults() {
        fault("", FORM, 0);
        fault("  \n", FORM, 3);
        fault("r", FORM, 1);
        fault("r=", FORM, 2);
        fault("r=k", FORM, 3);
        fault("r=k  ", FORM, 5);
        fault("r=k;x", FORM, 5);
        fault(";", FORM, 0);
        fault("1=k;", FORM, 0);
        fault("r k;", FORM, 2);
        fault("r==k;", FORM, 2);
        fault("r=;", FORM, 2);
        fault("r=k;;", FORM, 4);
        fault("r=k);", FORM, 3);
        fault("r=(k);", FORM, 2);
        fault("r=k=k;", FORM, 3);
        fault("r=*;", FORM, 2);
        fault("r=-1;", FORM, 2);
        fault("r=/2;", FORM, 2);
        fault("r=d;", FORM, 3);
        fault("r=d k;", FORM, 4);
        fault("r=d", FORM, 3);
        fault("r=d -", FORM, 5);
        fault("r=d - ;", FORM, 6);
        fault("r=d --1;", FORM, 5);
        fault("r=d 1/;", FORM, 6);
        fault("r=d 1/-2;", FORM, 6);
        fault("r=d 1/2/3;", FORM, 7);
        fault("r=d 1/0;", FORM, 6);
        fault("r=q 1/0000;", FORM, 6);
        fault("r=q -1/0;", FORM, 7);
        fault("r=s 1/2;", FORM, 5);
        fault("r=s;", FORM, 3);
        fault("r=s --1;", FORM, 5);
        fault("r=s -k;", FORM, 5);
        fault("r=s k;", FORM, 4);
        fault("r=k 1;", FORM, 5);
        fault("r=m -1;", FORM, 4);
        fine("r=d 0/3;", 1);
    }

    private static void timesFaults() {
        fault("r=0*(k);", FORM, 2);
        fault("r=00;", FORM, 2);
        fault("r=0$", FORM, 2);
        fault("r=41*(d 1);", FORM, 2);
        fault("r=2;", FORM, 3);
        fault("r=2*;", FORM, 4);
        fault("r=2*k;", FORM, 4);
        fault("r=2(k);", FORM, 3);
        fault("r=2*();", FORM, 5);
        fault("r=2*(k;", FORM, 6);
        fault("r=2*(k", FORM, 6);
        fault("r=2*(k));", FORM, 7);
        fault("r=-2*(k);", FORM, 2);
        fault("r=2/1*(k);", FORM, 3);
        fine("r=40*(d 1);", 40);
        fine("r=1*(d 1);", 1);
        fine("r=0002*(k);", 2);
    }

    private static void nameFaults() {
        String[] kinds = {"d", "q", "s", "k", "m"};
        for (String kind : kinds) {
            fault(kind + "=k;", FORM, 0);
            fault("r=k;" + kind + "=k;", FORM, 4);
        }
        fault("r=x;", FORM, 2);
        fault("r=r;", FORM, 2);
        fault("a=b;b=k;", FORM, 2);
        fault("a=k;a=m;", FORM, 4);
        fault("a=k;b=m;a=m;", FORM, 8);
        fault("a=k;b=aa;", FORM, 6);
        fault("abcdefgh=k;r=abcdefgi;", FORM, 13);
        fine("a=k;aa=a;aaa=aa a;", 2);
    }

    private static void deepFaults() {
        String six = times("1*(", 6);
        fine("r=" + six + "k" + times(")", 6) + ";", 1);
        fault("r=" + six + "1*(k" + times(")", 7) + ";", DEEP, 22);
        fault("r=" + six + "1*$", SIGN, 22);
        fault("r=" + six + "1(", FORM, 21);
        // Brackets that a told name holds are not open where it is used, and closed ones are open no more.
        fine("a=" + six + "k" + times(")", 6) + ";r=" + six + "a" + times(")", 6) + ";", 1);
        fine("r=" + times("1*(k)", 9) + ";", 9);
    }

    private static void manyFaults() {
        fine("r=2*(40*(d 1));", 80);
        fault("r=2*(40*(d 1))d 1;", MANY, 17);
        fault("r=40*(40*(40*(40*(40*(40*(d 1 q 1))))));", MANY, 39);
        fine("r=12*(k);", 12);
        fault("r=13*(k);", MANY, 8);
        fine("r=12*(m);", 12);
        fault("r=13*(m);", MANY, 8);
        fine("r=12*(k m);", 24);
        fault("r=12*(k m)k;", MANY, 11);
        fault("r=12*(k m)m;", MANY, 11);
        fine("r=40*(s 1 s 1);", 80);
        fault("r=40*(s 1 s 1)s 1;", MANY, 17);
        // Any line, not the last alone; and a name's PARTS count where it is used.
        fault("a=13*(k);r=d 1;", MANY, 8);
        fine("a=7*(k);b=5*(k);r=a b;", 12);
        fault("a=7*(k);b=6*(k);r=a b;", MANY, 21);
        fine("a=40*(d 1);r=a a;", 80);
        fault("a=40*(d 1);r=a a a;", MANY, 18);
        fine("a=12*(k);b=12*(m);r=d 1;", 1);
        // A line's count starts anew.
        fine("a=12*(k);r=12*(k);", 12);
    }

    private static void firstFaultWins() {
        fault("r=13*(k)$;", SIGN, 8);
        fault("r=13*(k)/;", FORM, 8);
        fault("r=13*(k)", FORM, 8);
        fault("r=13*(k);$", MANY, 8);
        fault("r=x $;", FORM, 2);
        fault("r=$ x;", SIGN, 2);
        fault("r=d $", SIGN, 4);
        fault("r=d 1 abcdefghi", SIGN, 6);
        fault("r=" + times("1*(", 7) + "$", DEEP, 22);
        fault("r=13*(k)" + times("1*(", 7), DEEP, 28);
    }

    private static void faultLeavesRing() {
        MagnetRing ring = Check.ring("r=k d 2/4 m;");
        ring.kick(0, 5, 10);
        ring.grid(5);
        ring.table(0, 3);
        Check.same("faulty read", Check.read(ring, "a=m;b=$"), SIGN);
        Check.same("place()", ring.place(), 6);
        Check.same("place() again", ring.place(), 6);
        ring.feed(1, 'x');
        Check.same("place() behind feed", ring.place(), 6);
        Check.same("count(1)", ring.count(1), 3);
        Check.same("count(2)", ring.count(2), 1);
        Check.same("part(0, 1)", ring.part(0, 1), 1);
        Check.same("part(0, 2)", ring.part(0, 2), 2);
        Check.same("part(1, 2)", ring.part(1, 2), 2);
        Check.same("rows(0)", ring.rows(0), 5);
        Check.numbers("table", ring, 1, 1, 1, 2, 0, 1, 1, 1);
        Check.same("read goes on with x", Check.read(ring, "=k;"), 1);
        Check.same("place() behind a good read", ring.place(), MagnetRing.NONE);
        // Names of an earlier text are forgotten.
        Check.same("read of a name told ahead", Check.read(ring, "r=x;"), FORM);
        Check.same("read tells it anew", Check.read(ring, "x=k k;"), 2);
        Check.same("part(0, 1) is 0 again", ring.part(0, 1), 0);
        Check.same("part(0, 2) is 1 again", ring.part(0, 2), 1);
    }

    /** Nothing of a text that was refused, or of an earlier ring, is left for the next one. */
    private static void readsAnew() {
        MagnetRing ring = new MagnetRing();
        Check.same("12 looks, 12 kicks", Check.read(ring, "r=12*(k m);"), 24);
        Check.same("again", Check.read(ring, "r=12*(k m);"), 24);
        Check.same("count(2)", ring.count(2), 12);
        Check.same("count(3)", ring.count(3), 12);
        Check.same("too many", Check.read(ring, "r=13*(m);"), MANY);
        Check.same("few behind many", Check.read(ring, "r=k m;"), 2);
        Check.same("count(2)", ring.count(2), 1);
        Check.same("count(3)", ring.count(3), 1);
        Check.same("kick(1)", ring.kick(1, 1, 1), MagnetRing.BAD);
        Check.same("open ones", Check.read(ring, "r=1*(1*(k"), FORM);
        Check.same("behind open ones", Check.read(ring, "r=k k m;"), 3);
        Check.same("a length without its end", Check.read(ring, "r=d -1"), FORM);
        Check.same("behind that", Check.read(ring, "r=q 1;"), 1);
        Check.same("its strength", ring.part(0, 1), 1);
        Check.same("count(2)", ring.count(2), 0);
        Check.same("count(3)", ring.count(3), 0);
    }

    /** As many lines as a text can have, each made of the one ahead. */
    private static void manyLines() {
        StringBuilder text = new StringBuilder("aa=40*(d 1 q 1);");
        String ahead = "aa";
        int lines = 1;
        for (char one = 'a'; one <= 'z'; one++) {
            for (char two = 'b'; two <= 'z' && text.length() + 6 <= 1500; two++) {
                String name = "" + one + two;
                text.append(name).append('=').append(ahead).append(';');
                ahead = name;
                lines++;
            }
        }
        Check.holds("many lines", lines > 240);
        fine(text.toString(), 80);
    }

    private static void expansion() {
        MagnetRing ring = Check.ring("a=d 1 q 2;b=2*(a k)m;r=s 3 2*(b 2*(s -4)) a;");
        int[] kinds = {2, 0, 1, 3, 0, 1, 3, 4, 2, 2, 0, 1, 3, 0, 1, 3, 4, 2, 2, 0, 1};
        Check.same("count(1)", ring.count(1), kinds.length);
        for (int i = 0; i < kinds.length; i++) {
            Check.same("kind of " + i, ring.part(i, 0), kinds[i]);
        }
        Check.same("count(2)", ring.count(2), 4);
        Check.same("count(3)", ring.count(3), 2);
    }

    private static void part(MagnetRing ring, int i, int kind, int above, int below) {
        Check.same("part(" + i + ", 0)", ring.part(i, 0), kind);
        Check.same("part(" + i + ", 1)", ring.part(i, 1), above);
        Check.same("part(" + i + ", 2)", ring.part(i, 2), below);
    }

    private static void parts() {
        MagnetRing ring = Check.ring("r=d 6/4 d -6/4 q 0/7 q -0 q 9999/3 s -12 s 0 s 9999 k m d 1/9999 q -9999;");
        part(ring, 0, 0, 3, 2);
        part(ring, 1, 0, -3, 2);
        part(ring, 2, 1, 0, 1);
        part(ring, 3, 1, 0, 1);
        part(ring, 4, 1, 3333, 1);
        part(ring, 5, 2, -12, 1);
        part(ring, 6, 2, 0, 1);
        part(ring, 7, 2, 9999, 1);
        part(ring, 8, 3, 0, 1);
        part(ring, 9, 4, 0, 1);
        part(ring, 10, 0, 1, 9999);
        part(ring, 11, 1, -9999, 1);
        for (int what = 0; what <= 2; what++) {
            Check.same("part(12)", ring.part(12, what), MagnetRing.BAD);
            Check.same("part(-1)", ring.part(-1, what), MagnetRing.BAD);
            Check.same("part of most", ring.part(Integer.MAX_VALUE, what), MagnetRing.BAD);
            Check.same("part of least", ring.part(Integer.MIN_VALUE, what), MagnetRing.BAD);
        }
        Check.same("part(0, -1)", ring.part(0, -1), MagnetRing.BAD);
        Check.same("part(0, 3)", ring.part(0, 3), MagnetRing.BAD);
    }

    private static void kicks() {
        MagnetRing ring = Check.ring("r=d 1 k m k;");
        Check.same("kick(0, -10000, 10000)", ring.kick(0, -10000, 10000), 0);
        Check.same("kick(1, 10000, 6)", ring.kick(1, 10000, 6), 0);
        part(ring, 1, 3, -1, 1);
        part(ring, 3, 3, 5000, 3);
        Check.same("kick(2)", ring.kick(2, 1, 1), MagnetRing.BAD);
        Check.same("kick(-1)", ring.kick(-1, 1, 1), MagnetRing.BAD);
        Check.same("kick a above", ring.kick(0, 10001, 1), MagnetRing.BAD);
        Check.same("kick a below", ring.kick(0, -10001, 1), MagnetRing.BAD);
        Check.same("kick a least", ring.kick(0, Integer.MIN_VALUE, 1), MagnetRing.BAD);
        Check.same("kick b 0", ring.kick(0, 1, 0), MagnetRing.BAD);
        Check.same("kick b below 0", ring.kick(0, 1, -1), MagnetRing.BAD);
        Check.same("kick b above", ring.kick(0, 1, 10001), MagnetRing.BAD);
        part(ring, 1, 3, -1, 1);
        Check.same("kick back to 0", ring.kick(0, 0, 10000), 0);
        part(ring, 1, 3, 0, 1);
        ring.kick(0, 7, 7);
        Check.same("read", Check.read(ring, "r=k k;"), 2);
        part(ring, 0, 3, 0, 1);
        part(ring, 1, 3, 0, 1);
    }

    private static void counts() {
        MagnetRing ring = Check.ring("r=d 1 k m k m m;");
        Check.feed(ring, "hello");
        int[] due = {5, 6, 2, 3, 0};
        for (int what = 0; what <= 4; what++) {
            Check.same("count(" + what + ")", ring.count(what), due[what]);
        }
        ring.table(0, 1);
        Check.same("count(4) behind table", ring.count(4), 4);
        Check.same("count(-1)", ring.count(-1), MagnetRing.BAD);
        Check.same("count(5)", ring.count(5), MagnetRing.BAD);
        Check.same("count of least", ring.count(Integer.MIN_VALUE), MagnetRing.BAD);
    }
}
