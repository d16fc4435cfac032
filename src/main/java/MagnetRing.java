/**
 * A ring of magnets told in a small language: exact tables, widths, closed ways and bumps of it,
 * and the same ring on a grid of remainders. README.md says how to use it.
 */
public final class MagnetRing {
    public static final int BAD = -1, NO = -2, FULL = -3, NONE = -4, BIG = -5;

    private static final int TEXT_MOST = 1500;
    private static final int BYTES_MOST = 8;

    private static final int PARTS_MOST = 80;
    private static final int KICKS_MOST = 12;
    private static final int LOOKS_MOST = 12;
    private static final int TIMES_MOST = 40;
    private static final int OPEN_MOST = 6;

    private static final int KICK_BOUND = 10000;
    private static final int TABLE_PARTS_MOST = 200;
    private static final int ROUNDS_MOST = 1000;
    private static final long FRACTION_BOUND = 1000000000L;

    private static final int STRAIGHT = 0;
    private static final int LENS = 1;
    private static final int CURVED = 2;
    private static final int KICK = 3;
    private static final int LOOK = 4;

    private static final int FINE = 0;
    private static final int FAULT_SIGN = 1;
    private static final int FAULT_FORM = 2;
    private static final int FAULT_DEEP = 3;
    private static final int FAULT_MANY = 4;

    private static final int LOST = 0;
    private static final int EDGE = 1;
    private static final int STABLE = 2;

    private static final int[] PRIMES = {3, 5, 7, 11, 13, 17, 19, 23, 29, 31};
    private static final int POINTS_MOST = 31 * 31;

    private final Reader reader;
    private final Ring ring;
    private final Optics optics;
    private final Lattice lattice;
    private int faultPlace;

    public MagnetRing() {
        reader = new Reader();
        ring = new Ring();
        optics = new Optics();
        lattice = new Lattice();
        faultPlace = NONE;
    }

    public int feed(int n, long v) {
        if (n < 1 || n > BYTES_MOST) {
            return BAD;
        }
        if (n > TEXT_MOST - reader.text.length) {
            return FULL;
        }
        for (int i = n - 1; i >= 0; i--) {
            reader.text.append((int) (v >>> (8 * i)) & 255);
        }
        return reader.text.length;
    }

    public int read() {
        int fault = reader.findFault();
        reader.text.empty();
        if (fault != FINE) {
            faultPlace = reader.faultPlace();
            return -10 - fault;
        }
        faultPlace = NONE;
        ring.become(reader.lastLine());
        lattice.forget();
        return ring.size;
    }

    public int place() {
        return faultPlace;
    }

    public int part(int i, int what) {
        if (!ring.hasPart(i) || what < 0 || what > 2) {
            return BAD;
        }
        if (what == 0) {
            return ring.parts[i].kind;
        }
        return ring.strengthAt(i).side(what - 1);
    }

    public int kick(int k, int a, int b) {
        if (!ring.hasKick(k) || a < -KICK_BOUND || a > KICK_BOUND || b < 1 || b > KICK_BOUND) {
            return BAD;
        }
        ring.kicks[k].put(a, b);
        return 0;
    }

    public int table(int i, int n) {
        if (!ring.hasPart(i) || n < 0 || n > TABLE_PARTS_MOST) {
            return BAD;
        }
        optics.reckonTable(ring, i, n);
        if (optics.isBig()) {
            return BIG;
        }
        return optics.tellTable();
    }

    public int round(int i) {
        if (!ring.hasPart(i)) {
            return BAD;
        }
        optics.reckonTable(ring, i, ring.size);
        int state = optics.stability();
        if (state != BIG) {
            optics.tellTable();
        }
        return state;
    }

    public int widths(int i) {
        if (!ring.hasPart(i)) {
            return BAD;
        }
        optics.reckonTable(ring, i, ring.size);
        int state = optics.stability();
        if (state == BIG) {
            return BIG;
        }
        if (state != STABLE) {
            return NO;
        }
        optics.reckonMiddleWidth();
        if (optics.isBig()) {
            return BIG;
        }
        return optics.tellWidths();
    }

    public int turns() {
        if (!ring.hasPart(0)) {
            return BAD;
        }
        optics.reckonTable(ring, 0, ring.size);
        int state = optics.stability();
        if (state == BIG) {
            return BIG;
        }
        return state == STABLE ? optics.roundsUntilBack() : NO;
    }

    public int way(int i) {
        if (!ring.hasPart(i)) {
            return BAD;
        }
        int outcome = optics.closeWay(ring, ring.kicks, i);
        if (outcome != FINE) {
            return outcome;
        }
        return optics.tellWay();
    }

    public int answer(int m, int k) {
        if (!ring.hasLook(m) || !ring.hasKick(k)) {
            return BAD;
        }
        int outcome = optics.closeWay(ring, optics.onlyKick(k), ring.lookAt[m]);
        if (outcome != FINE) {
            return outcome;
        }
        return optics.tellWayX();
    }

    public int bump(int k, int l, int m) {
        if (!ring.hasKick(k) || !ring.hasKick(m) || k >= l || l >= m) {
            return BAD;
        }
        int outcome = optics.closeBump(ring, ring.kickAt[k], ring.kickAt[l], ring.kickAt[m]);
        if (outcome != FINE) {
            return outcome;
        }
        return optics.tellBump();
    }

    public int number(int i, int what) {
        if (i < 0 || what < 0 || what > 1) {
            return BAD;
        }
        return optics.hasTold(i) ? optics.told[i].side(what) : NONE;
    }

    public int grid(int p) {
        if (!isPrime(p) || !ring.hasPart(0)) {
            return BAD;
        }
        if (!lattice.prepare(ring, p)) {
            return NO;
        }
        lattice.followAll(ring);
        return lattice.resting;
    }

    public int rows(int what) {
        if (what < 0 || what > 3) {
            return BAD;
        }
        return lattice.told ? lattice.fact(what) : NONE;
    }

    public int after(int p, int x, int y, int n) {
        if (!isPrime(p) || !ring.hasPart(0)) {
            return BAD;
        }
        if (x < 0 || x >= p || y < 0 || y >= p || n < 0 || n > ROUNDS_MOST) {
            return BAD;
        }
        if (!lattice.prepare(ring, p)) {
            return NO;
        }
        int point = x * p + y;
        for (int done = 0; done < n; done++) {
            point = lattice.next(ring, point);
        }
        return point;
    }

    public int count(int what) {
        switch (what) {
            case 0:
                return reader.text.length;
            case 1:
                return ring.size;
            case 2:
                return ring.kickAmount;
            case 3:
                return ring.lookAmount;
            case 4:
                return optics.toldAmount;
            default:
                return BAD;
        }
    }

    private static boolean isPrime(int p) {
        for (int i = 0; i < PRIMES.length; i++) {
            if (PRIMES[i] == p) {
                return true;
            }
        }
        return false;
    }

    private static long commonDivisor(long one, long other) {
        long larger = one;
        long smaller = other;
        // Euclid's way needs fewer than 100 steps for any two longs.
        for (int step = 0; step < 200 && smaller != 0; step++) {
            long rest = larger % smaller;
            larger = smaller;
            smaller = rest;
        }
        return larger;
    }

    /** The bytes that were fed, and the token that reading them stands at. */
    private static final class Text {
        private static final int END = -1;
        private static final int WRONG = -2;
        private static final int NAME = -3;
        private static final int NUMBER = -4;

        private static final int NAME_LETTERS = 8;
        private static final int NUMBER_FIGURES = 4;

        private final byte[] signs = new byte[TEXT_MOST];
        private int length;
        /** The token's kind: one of those above, or the sign itself where it stands alone. */
        private int kind;
        private int start;
        private int next;
        /** A NUMBER's worth, or a NAME's letters, five bits each. */
        private long worth;

        void append(int sign) {
            if (length < TEXT_MOST) {
                signs[length] = (byte) sign;
                length++;
            }
        }

        void empty() {
            length = 0;
        }

        void rewind() {
            next = 0;
        }

        // One token at a time, so that a wrong sign farther on can't hide a fault ahead of it.
        void advance() {
            skipBlanks();
            start = next;
            int sign = signAt(next);
            if (sign == END) {
                kind = END;
            } else if (isLetter(sign)) {
                takeName();
            } else if (isFigure(sign)) {
                takeNumber();
            } else {
                kind = standsAlone(sign) ? sign : WRONG;
                next++;
            }
        }

        private int signAt(int at) {
            if (at < 0 || at >= length || at >= TEXT_MOST) {
                return END;
            }
            return signs[at] & 255;
        }

        private void skipBlanks() {
            while (next < length && isBlank(signAt(next))) {
                next++;
            }
        }

        private void takeName() {
            worth = 0;
            while (next < length && isLetter(signAt(next))) {
                worth = worth * 32 + letterWorth(signAt(next));
                next++;
            }
            kind = next - start <= NAME_LETTERS ? NAME : WRONG;
        }

        private void takeNumber() {
            worth = 0;
            while (next < length && isFigure(signAt(next))) {
                worth = worth * 10 + (signAt(next) - '0');
                next++;
            }
            kind = next - start <= NUMBER_FIGURES ? NUMBER : WRONG;
        }

        boolean isName(int letter) {
            return kind == NAME && worth == letterWorth(letter);
        }

        boolean isKindLetter() {
            return isName('d') || isName('q') || isName('s') || isName('k') || isName('m');
        }

        private static int letterWorth(int letter) {
            return letter - 'a' + 1;
        }

        private static boolean isBlank(int sign) {
            return sign == 32 || sign == 10;
        }

        private static boolean isLetter(int sign) {
            return sign >= 'a' && sign <= 'z';
        }

        private static boolean isFigure(int sign) {
            return sign >= '0' && sign <= '9';
        }

        private static boolean standsAlone(int sign) {
            switch (sign) {
                case '=':
                case ';':
                case '(':
                case ')':
                case '*':
                case '/':
                case '-':
                    return true;
                default:
                    return false;
            }
        }
    }

    /** A PART as the text tells it; a KICK's own number is the Ring's, since it changes. */
    private static final class Part {
        private final int kind;
        private final Fraction strength;

        Part(int kind, Fraction strength) {
            this.kind = kind;
            this.strength = strength;
        }
    }

    /** The PARTS that the line being read comes to so far. */
    private static final class Row {
        private final Part[] parts = new Part[PARTS_MOST];
        private int size;
        private int kicks;
        private int looks;
        /** Stays once it is true: a line never comes to fewer PARTS by what follows. */
        private boolean many;

        void clear() {
            size = 0;
            kicks = 0;
            looks = 0;
            many = false;
        }

        void add(Part part) {
            if (many) {
                return;
            }
            if (part.kind == KICK) {
                kicks++;
            }
            if (part.kind == LOOK) {
                looks++;
            }
            if (size >= PARTS_MOST || kicks > KICKS_MOST || looks > LOOKS_MOST) {
                many = true;
                return;
            }
            parts[size] = part;
            size++;
        }

        void addLine(Line line) {
            for (int i = 0; i < line.parts.length; i++) {
                add(line.parts[i]);
            }
        }

        void repeat(int from, int times) {
            int until = size;
            for (int done = 1; done < times && !many; done++) {
                for (int i = from; i < until; i++) {
                    add(parts[i]);
                }
            }
        }
    }

    /** A line that was told, with the line ahead of it. */
    private static final class Line {
        private final long name;
        private final Part[] parts;
        private final Line ahead;

        Line(long name, Row row, Line ahead) {
            this.name = name;
            this.ahead = ahead;
            this.parts = new Part[row.size];
            for (int i = 0; i < row.size; i++) {
                this.parts[i] = row.parts[i];
            }
        }
    }

    /** Holds THE TEXT and reads it token by token; what may stand next is held in expected. */
    private static final class Reader {
        private static final int LINE = 0;
        private static final int EQUALS = 1;
        private static final int ITEM = 2;
        private static final int ITEM_OR_CLOSE = 3;
        private static final int MINUS_OR_NUMBER = 4;
        private static final int ABOVE = 5;
        private static final int SLASH_OR_ITEM = 6;
        private static final int BELOW = 7;
        private static final int STAR = 8;
        private static final int OPEN = 9;

        private final Text text = new Text();
        private final Row row = new Row();
        private final int[] openFrom = new int[OPEN_MOST];
        private final int[] openTimes = new int[OPEN_MOST];
        private int open;
        private Line latest;
        private int expected;
        private long lineName;
        private int kind;
        private int sign;
        private int above;
        private int times;

        int findFault() {
            text.rewind();
            latest = null;
            expected = LINE;
            // Each token takes one sign at least, and the end one step more.
            for (int taken = 0; taken <= TEXT_MOST; taken++) {
                text.advance();
                int fault = take();
                if (fault != FINE || text.kind == Text.END) {
                    return fault;
                }
            }
            return FAULT_FORM;
        }

        int faultPlace() {
            return text.start;
        }

        Line lastLine() {
            return latest;
        }

        private int take() {
            if (text.kind == Text.WRONG) {
                return FAULT_SIGN;
            }
            if (expected == SLASH_OR_ITEM && text.kind != '/') {
                endPart(kind, above, 1);
            }
            switch (expected) {
                case LINE:
                    return takeLineName();
                case EQUALS:
                    return takeAlone('=', ITEM);
                case ITEM:
                    return takeItem();
                case ITEM_OR_CLOSE:
                    return closes() ? takeClose() : takeItem();
                case MINUS_OR_NUMBER:
                    return takeMinusOrNumber();
                case ABOVE:
                    return takeAbove();
                case SLASH_OR_ITEM:
                    return takeAlone('/', BELOW);
                case BELOW:
                    return takeBelow();
                case STAR:
                    return takeAlone('*', OPEN);
                default:
                    return takeOpen();
            }
        }

        private int takeAlone(int mark, int expectedThen) {
            if (text.kind != mark) {
                return FAULT_FORM;
            }
            expected = expectedThen;
            return FINE;
        }

        private int takeLineName() {
            if (text.kind == Text.END) {
                return latest == null ? FAULT_FORM : FINE;
            }
            if (text.kind != Text.NAME || text.isKindLetter() || lineOf(text.worth) != null) {
                return FAULT_FORM;
            }
            lineName = text.worth;
            row.clear();
            open = 0;
            expected = EQUALS;
            return FINE;
        }

        private Line lineOf(long name) {
            for (Line line = latest; line != null; line = line.ahead) {
                if (line.name == name) {
                    return line;
                }
            }
            return null;
        }

        private int takeItem() {
            if (text.kind == Text.NUMBER) {
                return takeTimes();
            }
            if (text.kind != Text.NAME) {
                return FAULT_FORM;
            }
            if (text.isName('d')) {
                return beginPart(STRAIGHT);
            }
            if (text.isName('q')) {
                return beginPart(LENS);
            }
            if (text.isName('s')) {
                return beginPart(CURVED);
            }
            if (text.isName('k')) {
                return endPart(KICK, 0, 1);
            }
            if (text.isName('m')) {
                return endPart(LOOK, 0, 1);
            }
            return takeToldName();
        }

        private int takeTimes() {
            if (text.worth < 1 || text.worth > TIMES_MOST) {
                return FAULT_FORM;
            }
            times = (int) text.worth;
            expected = STAR;
            return FINE;
        }

        private int takeToldName() {
            Line line = lineOf(text.worth);
            if (line == null) {
                return FAULT_FORM;
            }
            row.addLine(line);
            expected = ITEM_OR_CLOSE;
            return FINE;
        }

        private int beginPart(int kindOfPart) {
            kind = kindOfPart;
            sign = 1;
            expected = MINUS_OR_NUMBER;
            return FINE;
        }

        private int endPart(int kindOfPart, int partAbove, int partBelow) {
            Fraction strength = new Fraction();
            strength.put(partAbove, partBelow);
            row.add(new Part(kindOfPart, strength));
            expected = ITEM_OR_CLOSE;
            return FINE;
        }

        private int takeMinusOrNumber() {
            if (text.kind == '-') {
                sign = -1;
                expected = ABOVE;
                return FINE;
            }
            return takeAbove();
        }

        private int takeAbove() {
            if (text.kind != Text.NUMBER) {
                return FAULT_FORM;
            }
            above = sign * (int) text.worth;
            if (kind == CURVED) {
                return endPart(CURVED, above, 1);
            }
            expected = SLASH_OR_ITEM;
            return FINE;
        }

        private int takeBelow() {
            if (text.kind != Text.NUMBER || text.worth == 0) {
                return FAULT_FORM;
            }
            return endPart(kind, above, (int) text.worth);
        }

        private int takeOpen() {
            if (text.kind != '(') {
                return FAULT_FORM;
            }
            if (open >= OPEN_MOST) {
                return FAULT_DEEP;
            }
            openFrom[open] = row.size;
            openTimes[open] = times;
            open++;
            expected = ITEM;
            return FINE;
        }

        private boolean closes() {
            return open > 0 ? text.kind == ')' : text.kind == ';';
        }

        private int takeClose() {
            if (open > 0) {
                open--;
                row.repeat(openFrom[open], openTimes[open]);
                return FINE;
            }
            if (row.many) {
                return FAULT_MANY;
            }
            latest = new Line(lineName, row, latest);
            expected = LINE;
            return FINE;
        }
    }

    /** THE RING and the numbers of its KICKS; it has no PARTS as long as there is none. */
    private static final class Ring {
        private Part[] parts;
        private int size;
        private final Fraction[] kicks;
        private final int[] kickAt;
        private final int[] lookAt;
        /** At a KICK's PART: which KICK it is. */
        private final int[] kickOf;
        private int kickAmount;
        private int lookAmount;

        Ring() {
            parts = new Part[0];
            kicks = new Fraction[KICKS_MOST];
            for (int k = 0; k < KICKS_MOST; k++) {
                kicks[k] = new Fraction();
            }
            kickAt = new int[KICKS_MOST];
            lookAt = new int[LOOKS_MOST];
            kickOf = new int[PARTS_MOST];
        }

        boolean hasPart(int i) {
            return i >= 0 && i < size;
        }

        boolean hasKick(int k) {
            return k >= 0 && k < kickAmount;
        }

        boolean hasLook(int m) {
            return m >= 0 && m < lookAmount;
        }

        Fraction strengthAt(int i) {
            return parts[i].kind == KICK ? kicks[kickOf[i]] : parts[i].strength;
        }

        void become(Line line) {
            if (line == null) {
                return;
            }
            parts = line.parts;
            size = line.parts.length;
            kickAmount = 0;
            lookAmount = 0;
            for (int i = 0; i < size; i++) {
                if (parts[i].kind == KICK && kickAmount < KICKS_MOST) {
                    kickOf[i] = kickAmount;
                    kickAt[kickAmount] = i;
                    kicks[kickAmount].put(0, 1);
                    kickAmount++;
                }
                if (parts[i].kind == LOOK && lookAmount < LOOKS_MOST) {
                    lookAt[lookAmount] = i;
                    lookAmount++;
                }
            }
        }
    }

    /** A fraction in lowest terms, below above 0, both within the bound; it is changed in place. */
    private static final class Fraction {
        private long above;
        private long below = 1;

        void put(long newAbove, long newBelow) {
            long common = commonDivisor(Math.abs(newAbove), newBelow);
            if (common > 0) {
                above = newAbove / common;
                below = newBelow / common;
            }
        }

        void copy(Fraction other) {
            above = other.above;
            below = other.below;
        }

        void negate() {
            above = -above;
        }

        boolean isZero() {
            return above == 0;
        }

        int compareToWhole(long whole) {
            return Long.compare(above, whole * below);
        }

        int side(int what) {
            return (int) (what == 0 ? above : below);
        }
    }

    /** The arithmetic on fractions; big stays true from the first one beyond the bound until begin(). */
    private static final class Reckoner {
        private boolean big;
        private final Fraction product = new Fraction();

        void begin() {
            big = false;
        }

        void plus(Fraction to, Fraction by) {
            settle(to, to.above * by.below + by.above * to.below, to.below * by.below);
        }

        void minus(Fraction to, Fraction by) {
            settle(to, to.above * by.below - by.above * to.below, to.below * by.below);
        }

        void times(Fraction to, Fraction by) {
            settle(to, to.above * by.above, to.below * by.below);
        }

        void over(Fraction to, Fraction by) {
            if (by.above > 0) {
                settle(to, to.above * by.below, to.below * by.above);
            } else if (by.above < 0) {
                settle(to, -to.above * by.below, -to.below * by.above);
            }
        }

        void plusProduct(Fraction to, Fraction left, Fraction right) {
            product.copy(left);
            times(product, right);
            plus(to, product);
        }

        void minusProduct(Fraction to, Fraction left, Fraction right) {
            product.copy(left);
            times(product, right);
            minus(to, product);
        }

        // Both sides fit a long: what goes in is within the bound, so nothing here goes beyond 2 * 10^18.
        private void settle(Fraction to, long above, long below) {
            long common = commonDivisor(Math.abs(above), below);
            if (common <= 0) {
                return;
            }
            if (Math.abs(above / common) > FRACTION_BOUND || below / common > FRACTION_BOUND) {
                big = true;
                return;
            }
            to.above = above / common;
            to.below = below / common;
        }
    }

    /** x and y of something that is led through PARTS. */
    private static final class Mote {
        private final Fraction x = new Fraction();
        private final Fraction y = new Fraction();

        void put(long newX, long newY) {
            x.put(newX, 1);
            y.put(newY, 1);
        }
    }

    /** Tables, closed ways and bumps of a Ring; what was reckoned last is held until it is told. */
    private static final class Optics {
        private static final int TOLD_MOST = 4;

        private final Reckoner reckoner = new Reckoner();
        /** A TABLE is what two motes come to: a, c from 1, 0 and b, d from 0, 1. */
        private final Mote columnAC = new Mote();
        private final Mote columnBD = new Mote();
        /** u and v. */
        private final Mote kicked = new Mote();
        private final Mote closed = new Mote();
        private final Fraction trace = new Fraction();
        private final Fraction gap = new Fraction();
        private final Fraction rest = new Fraction();
        private final Fraction middleWidth = new Fraction();
        private final Fraction bumpMiddle = new Fraction();
        private final Fraction bumpEnd = new Fraction();
        private final Fraction[] trialKicks = new Fraction[KICKS_MOST];
        /** What the latest call told; a call that fails leaves it as it was. */
        private final Fraction[] told = new Fraction[TOLD_MOST];
        private int toldAmount;

        Optics() {
            for (int k = 0; k < KICKS_MOST; k++) {
                trialKicks[k] = new Fraction();
            }
            for (int i = 0; i < TOLD_MOST; i++) {
                told[i] = new Fraction();
            }
        }

        boolean isBig() {
            return reckoner.big;
        }

        Fraction[] onlyKick(int k) {
            for (int i = 0; i < KICKS_MOST; i++) {
                trialKicks[i].put(i == k ? 1 : 0, 1);
            }
            return trialKicks;
        }

        private void lead(Mote mote, Part part) {
            if (part.kind == STRAIGHT) {
                reckoner.plusProduct(mote.x, part.strength, mote.y);
            } else if (part.kind == LENS) {
                reckoner.minusProduct(mote.y, part.strength, mote.x);
            }
        }

        private void giveKick(Mote mote, Ring ring, int i, Fraction[] kicks) {
            if (ring.parts[i].kind == KICK) {
                reckoner.plus(mote.y, kicks[ring.kickOf[i]]);
            }
        }

        private void beginTable() {
            reckoner.begin();
            columnAC.put(1, 0);
            columnBD.put(0, 1);
        }

        void reckonTable(Ring ring, int from, int n) {
            beginTable();
            int at = from;
            for (int done = 0; done < n && !reckoner.big; done++) {
                lead(columnAC, ring.parts[at]);
                lead(columnBD, ring.parts[at]);
                at = at + 1 < ring.size ? at + 1 : 0;
            }
        }

        /** Of THE ROUND that was reckoned just now. */
        int stability() {
            trace.copy(columnAC.x);
            reckoner.plus(trace, columnBD.y);
            if (reckoner.big) {
                return BIG;
            }
            int low = trace.compareToWhole(-2);
            int high = trace.compareToWhole(2);
            if (low == 0 || high == 0) {
                return EDGE;
            }
            return low > 0 && high < 0 ? STABLE : LOST;
        }

        int roundsUntilBack() {
            if (trace.compareToWhole(-1) == 0) {
                return 3;
            }
            if (trace.compareToWhole(0) == 0) {
                return 4;
            }
            return trace.compareToWhole(1) == 0 ? 6 : 0;
        }

        void reckonMiddleWidth() {
            middleWidth.copy(columnAC.x);
            reckoner.minus(middleWidth, columnBD.y);
            rest.put(1, 2);
            reckoner.times(middleWidth, rest);
        }

        int closeWay(Ring ring, Fraction[] kicks, int until) {
            beginTable();
            kicked.put(0, 0);
            for (int i = 0; i < ring.size && !reckoner.big; i++) {
                lead(columnAC, ring.parts[i]);
                lead(columnBD, ring.parts[i]);
                lead(kicked, ring.parts[i]);
                giveKick(kicked, ring, i, kicks);
            }
            gap.put(2, 1);
            reckoner.minus(gap, columnAC.x);
            reckoner.minus(gap, columnBD.y);
            if (reckoner.big) {
                return BIG;
            }
            if (gap.isZero()) {
                return NO;
            }
            solveClosed();
            for (int i = 0; i < until && i < ring.size && !reckoner.big; i++) {
                lead(closed, ring.parts[i]);
                giveKick(closed, ring, i, kicks);
            }
            return reckoner.big ? BIG : FINE;
        }

        private void solveClosed() {
            closed.x.put(1, 1);
            reckoner.minus(closed.x, columnBD.y);
            reckoner.times(closed.x, kicked.x);
            reckoner.plusProduct(closed.x, columnBD.x, kicked.y);
            reckoner.over(closed.x, gap);

            rest.put(1, 1);
            reckoner.minus(rest, columnAC.x);
            closed.y.copy(columnAC.y);
            reckoner.times(closed.y, kicked.x);
            reckoner.plusProduct(closed.y, rest, kicked.y);
            reckoner.over(closed.y, gap);
        }

        int closeBump(Ring ring, int first, int middle, int last) {
            reckonTable(ring, first, last - first);
            if (reckoner.big) {
                return BIG;
            }
            bumpMiddle.copy(columnBD.x);
            bumpEnd.copy(columnBD.y);
            reckonTable(ring, middle, last - middle);
            if (reckoner.big) {
                return BIG;
            }
            if (columnBD.x.isZero()) {
                return NO;
            }
            bumpMiddle.negate();
            reckoner.over(bumpMiddle, columnBD.x);
            bumpEnd.negate();
            reckoner.minusProduct(bumpEnd, bumpMiddle, columnBD.y);
            return reckoner.big ? BIG : FINE;
        }

        boolean hasTold(int i) {
            return i >= 0 && i < toldAmount;
        }

        private void tell(Fraction number) {
            if (toldAmount < TOLD_MOST) {
                told[toldAmount].copy(number);
                toldAmount++;
            }
        }

        int tellTable() {
            toldAmount = 0;
            tell(columnAC.x);
            tell(columnBD.x);
            tell(columnAC.y);
            tell(columnBD.y);
            return toldAmount;
        }

        int tellWidths() {
            columnAC.y.negate();
            toldAmount = 0;
            tell(columnBD.x);
            tell(middleWidth);
            tell(columnAC.y);
            return toldAmount;
        }

        int tellWay() {
            toldAmount = 0;
            tell(closed.x);
            tell(closed.y);
            return toldAmount;
        }

        int tellWayX() {
            toldAmount = 0;
            tell(closed.x);
            return toldAmount;
        }

        int tellBump() {
            toldAmount = 0;
            tell(bumpMiddle);
            tell(bumpEnd);
            return toldAmount;
        }
    }

    /** A Ring on a grid of remainders, and what the latest grid that was told came to. */
    private static final class Lattice {
        private int prime = 3;
        private final int[] strengths = new int[PARTS_MOST];
        private final boolean[] seen = new boolean[POINTS_MOST];
        private boolean told;
        private int toldPrime;
        private int resting;
        private int cycles;
        private int longest;
        private int leader;

        void forget() {
            told = false;
        }

        /** False if a FRACTION of the Ring has no remainder by p. */
        boolean prepare(Ring ring, int p) {
            if (p < 2) {
                return false;
            }
            prime = p;
            for (int i = 0; i < ring.size; i++) {
                Fraction strength = ring.parts[i].strength;
                int turned = inverse(strength.side(1) % p, p);
                if (turned == 0) {
                    return false;
                }
                strengths[i] = Math.floorMod(strength.side(0), p) * turned % p;
            }
            return true;
        }

        private static int inverse(int remainder, int p) {
            for (int turned = 1; turned < p; turned++) {
                if (remainder * turned % p == 1) {
                    return turned;
                }
            }
            return 0;
        }

        int next(Ring ring, int point) {
            int x = point / prime;
            int y = point % prime;
            for (int i = 0; i < ring.size; i++) {
                switch (ring.parts[i].kind) {
                    case STRAIGHT:
                        x = (x + strengths[i] * y) % prime;
                        break;
                    case LENS:
                        y = Math.floorMod(y - strengths[i] * x, prime);
                        break;
                    case CURVED:
                        y = Math.floorMod(y - strengths[i] * x * x, prime);
                        break;
                    default:
                        break;
                }
            }
            return x * prime + y;
        }

        void followAll(Ring ring) {
            int points = Math.min(prime * prime, POINTS_MOST);
            for (int point = 0; point < points; point++) {
                seen[point] = false;
            }
            told = true;
            toldPrime = prime;
            resting = 0;
            cycles = 0;
            longest = 0;
            leader = 0;
            for (int point = 0; point < points; point++) {
                if (!seen[point]) {
                    noteCycle(point, follow(ring, point, points));
                }
            }
        }

        private int follow(Ring ring, int start, int points) {
            int length = 0;
            int point = start;
            while (length < points && !seen[point]) {
                seen[point] = true;
                point = next(ring, point);
                length++;
            }
            return length;
        }

        // Starts come from the least point up, so a start is the least of its row and the first of equals wins.
        private void noteCycle(int start, int length) {
            cycles++;
            if (length == 1) {
                resting++;
            }
            if (length > longest) {
                longest = length;
                leader = start;
            }
        }

        int fact(int what) {
            switch (what) {
                case 0:
                    return toldPrime;
                case 1:
                    return cycles;
                case 2:
                    return longest;
                default:
                    return leader;
            }
        }
    }
}
