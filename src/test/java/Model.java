import java.math.BigInteger;
import java.util.ArrayList;
import java.util.HashMap;
import java.util.List;
import java.util.Map;

/**
 * A second program for the same document, by other means than the class: a reader by recursion, fractions of
 * BigIntegers that throw where BIG is due, and a grid by a plain list of followers.
 */
final class Model {
    private static final BigInteger BOUND = BigInteger.valueOf(1000000000L);

    private static final class Big extends RuntimeException {
        private static final long serialVersionUID = 1;
    }

    private static final class Fault extends RuntimeException {
        private static final long serialVersionUID = 1;
        final int code;
        final int at;

        Fault(int code, int at) {
            this.code = code;
            this.at = at;
        }
    }

    /** A fraction that can't be made if it is beyond the bound. */
    private record Q(BigInteger above, BigInteger below) {
        static Q of(BigInteger above, BigInteger below) {
            BigInteger common = above.gcd(below);
            if (below.signum() < 0) {
                common = common.negate();
            }
            Q q = new Q(above.divide(common), below.divide(common));
            if (q.above.abs().compareTo(BOUND) > 0 || q.below.compareTo(BOUND) > 0) {
                throw new Big();
            }
            return q;
        }

        static Q of(long above, long below) {
            return of(BigInteger.valueOf(above), BigInteger.valueOf(below));
        }

        Q plus(Q o) {
            return of(above.multiply(o.below).add(o.above.multiply(below)), below.multiply(o.below));
        }

        Q minus(Q o) {
            return of(above.multiply(o.below).subtract(o.above.multiply(below)), below.multiply(o.below));
        }

        Q times(Q o) {
            return of(above.multiply(o.above), below.multiply(o.below));
        }

        Q over(Q o) {
            return times(of(o.below, o.above));
        }

        int sign() {
            return above.signum();
        }
    }

    private static final Q ZERO = Q.of(0, 1), ONE = Q.of(1, 1), TWO = Q.of(2, 1);

    private record Item(int kind, Q strength) {
    }

    private final StringBuilder text = new StringBuilder();
    private int faultAt = -4;
    private List<Item> ring = new ArrayList<>();
    private List<Q> kicks = new ArrayList<>();
    private List<Q> told = new ArrayList<>();
    private int[] rows = null;

    // ---- the text

    int feed(int n, long v) {
        if (n < 1 || n > 8) {
            return -1;
        }
        if (text.length() + n > 1500) {
            return -3;
        }
        for (int i = 0; i < n; i++) {
            text.append((char) (v >> 8 * (n - 1 - i) & 255));
        }
        return text.length();
    }

    int read() {
        String whole = text.toString();
        text.setLength(0);
        try {
            ring = new Parser(whole).lines();
        } catch (Fault fault) {
            faultAt = fault.at;
            return -10 - fault.code;
        }
        faultAt = -4;
        rows = null;
        kicks = new ArrayList<>();
        for (int i : at(3)) {
            kicks.add(ZERO);
        }
        return ring.size();
    }

    int place() {
        return faultAt;
    }

    private static final class Parser {
        private final String text;
        private final Map<String, List<Item>> lines = new HashMap<>();
        private int at;
        private String token;

        Parser(String text) {
            this.text = text;
            step(0);
        }

        /** The token from a place on; "" is the end. Wrong signs are faults when they come to be looked at. */
        private void step(int from) {
            at = from;
            while (at < text.length() && (text.charAt(at) == ' ' || text.charAt(at) == '\n')) {
                at++;
            }
            int until = at;
            if (at == text.length()) {
                token = "";
                return;
            }
            char c = text.charAt(at);
            if (c >= 'a' && c <= 'z') {
                while (until < text.length() && text.charAt(until) >= 'a' && text.charAt(until) <= 'z') {
                    until++;
                }
            } else if (c >= '0' && c <= '9') {
                while (until < text.length() && text.charAt(until) >= '0' && text.charAt(until) <= '9') {
                    until++;
                }
            } else {
                until++;
            }
            token = text.substring(at, until);
            if (!token.matches("[a-z]{1,8}|[0-9]{1,4}|[-=;()*/]")) {
                throw new Fault(1, at);
            }
        }

        private String take(boolean mayStand) {
            if (!mayStand) {
                throw new Fault(2, at);
            }
            String taken = token;
            step(at + taken.length());
            return taken;
        }

        private void take(String due) {
            take(token.equals(due));
        }

        private boolean isName() {
            return token.matches("[a-z]+");
        }

        private boolean isNumber() {
            return token.matches("[0-9]+");
        }

        private int worth() {
            return Integer.parseInt(token);
        }

        List<Item> lines() {
            List<Item> last = null;
            while (last == null || !token.isEmpty()) {
                String name = take(isName() && !token.matches("[dqskm]") && !lines.containsKey(token));
                take("=");
                last = items(";", 0);
                if (!token.equals(";")) {
                    throw new Fault(2, at);
                }
                long kicks = last.stream().filter(i -> i.kind == 3).count();
                long looks = last.stream().filter(i -> i.kind == 4).count();
                if (last.size() > 80 || kicks > 12 || looks > 12) {
                    throw new Fault(4, at);
                }
                lines.put(name, last);
                step(at + 1);
            }
            return last;
        }

        private List<Item> items(String end, int open) {
            List<Item> all = new ArrayList<>();
            do {
                all.addAll(item(open));
                if (all.size() > 1000) {
                    // More than enough to be too many, of every kind that it has too many of.
                    all = shortened(all);
                }
            } while (!token.equals(end) && (isName() || isNumber()));
            return all;
        }

        private static List<Item> shortened(List<Item> all) {
            List<Item> few = new ArrayList<>();
            for (int i = 0; i < 200; i++) {
                few.add(all.get(i));
            }
            return few;
        }

        private List<Item> item(int open) {
            if (isNumber()) {
                int n = worth();
                take(n >= 1 && n <= 40);
                take("*");
                if (token.equals("(") && open == 6) {
                    throw new Fault(3, at);
                }
                take("(");
                List<Item> once = items(")", open + 1);
                take(")");
                List<Item> all = new ArrayList<>();
                for (int i = 0; i < n; i++) {
                    all.addAll(once);
                }
                return all;
            }
            String name = take(isName() && (token.matches("[dqskm]") || lines.containsKey(token)));
            switch (name) {
                case "d":
                    return List.of(new Item(0, fraction()));
                case "q":
                    return List.of(new Item(1, fraction()));
                case "s":
                    return List.of(new Item(2, Q.of(signed(), 1)));
                case "k":
                    return List.of(new Item(3, ZERO));
                case "m":
                    return List.of(new Item(4, ZERO));
                default:
                    return lines.get(name);
            }
        }

        private int signed() {
            int sign = 1;
            if (token.equals("-")) {
                take("-");
                sign = -1;
            }
            return sign * Integer.parseInt(take(isNumber()));
        }

        private Q fraction() {
            int above = signed();
            if (!token.equals("/")) {
                return Q.of(above, 1);
            }
            take("/");
            return Q.of(above, Integer.parseInt(take(isNumber() && worth() != 0)));
        }
    }

    // ---- the ring

    /** Where the PARTS of a kind stand. */
    private List<Integer> at(int kind) {
        List<Integer> places = new ArrayList<>();
        for (int i = 0; i < ring.size(); i++) {
            if (ring.get(i).kind == kind) {
                places.add(i);
            }
        }
        return places;
    }

    private static boolean within(int i, int size) {
        return i >= 0 && i < size;
    }

    int part(int i, int what) {
        if (!within(i, ring.size()) || !within(what, 3)) {
            return -1;
        }
        Item item = ring.get(i);
        Q q = item.kind == 3 ? kicks.get(at(3).indexOf(i)) : item.strength;
        return what == 0 ? item.kind : (what == 1 ? q.above : q.below).intValueExact();
    }

    int kick(int k, int a, int b) {
        if (!within(k, kicks.size()) || a < -10000 || a > 10000 || b < 1 || b > 10000) {
            return -1;
        }
        kicks.set(k, Q.of(a, b));
        return 0;
    }

    // ---- tables

    /** x and y led through a PART; kicks may be null. */
    private Q[] through(Q[] mote, int i, List<Q> by) {
        Item item = ring.get(i);
        Q x = mote[0], y = mote[1];
        switch (item.kind) {
            case 0:
                return new Q[] {x.plus(item.strength.times(y)), y};
            case 1:
                return new Q[] {x, y.minus(item.strength.times(x))};
            case 3:
                return by == null ? mote : new Q[] {x, y.plus(by.get(at(3).indexOf(i)))};
            default:
                return mote;
        }
    }

    private Q[] tableOf(int i, int n) {
        Q[] ac = {ONE, ZERO}, bd = {ZERO, ONE};
        for (int j = 0; j < n; j++) {
            ac = through(ac, (i + j) % ring.size(), null);
            bd = through(bd, (i + j) % ring.size(), null);
        }
        return new Q[] {ac[0], bd[0], ac[1], bd[1]};
    }

    private int tell(Q... numbers) {
        told = List.of(numbers);
        return numbers.length;
    }

    int table(int i, int n) {
        if (!within(i, ring.size()) || !within(n, 201)) {
            return -1;
        }
        try {
            return tell(tableOf(i, n));
        } catch (Big big) {
            return -5;
        }
    }

    private static int state(Q trace) {
        int over = trace.above.abs().compareTo(trace.below.shiftLeft(1));
        return over < 0 ? 2 : over == 0 ? 1 : 0;
    }

    int round(int i) {
        if (!within(i, ring.size())) {
            return -1;
        }
        try {
            Q[] t = tableOf(i, ring.size());
            int state = state(t[0].plus(t[3]));
            tell(t);
            return state;
        } catch (Big big) {
            return -5;
        }
    }

    int widths(int i) {
        if (!within(i, ring.size())) {
            return -1;
        }
        try {
            Q[] t = tableOf(i, ring.size());
            if (state(t[0].plus(t[3])) != 2) {
                return -2;
            }
            return tell(t[1], t[0].minus(t[3]).over(TWO), ZERO.minus(t[2]));
        } catch (Big big) {
            return -5;
        }
    }

    int turns() {
        if (ring.isEmpty()) {
            return -1;
        }
        try {
            Q[] t = tableOf(0, ring.size());
            Q trace = t[0].plus(t[3]);
            if (state(trace) != 2) {
                return -2;
            }
            return trace.equals(Q.of(-1, 1)) ? 3 : trace.equals(ZERO) ? 4 : trace.equals(ONE) ? 6 : 0;
        } catch (Big big) {
            return -5;
        }
    }

    /** x and y ahead of PART i, or null where e is 0. */
    private Q[] closed(List<Q> by, int i) {
        Q[] ac = {ONE, ZERO}, bd = {ZERO, ONE}, uv = {ZERO, ZERO};
        for (int j = 0; j < ring.size(); j++) {
            ac = through(ac, j, null);
            bd = through(bd, j, null);
            uv = through(uv, j, by);
        }
        Q a = ac[0], b = bd[0], c = ac[1], d = bd[1], u = uv[0], v = uv[1];
        Q e = TWO.minus(a).minus(d);
        if (e.sign() == 0) {
            return null;
        }
        Q[] mote = {ONE.minus(d).times(u).plus(b.times(v)).over(e), c.times(u).plus(ONE.minus(a).times(v)).over(e)};
        for (int j = 0; j < i; j++) {
            mote = through(mote, j, by);
        }
        return mote;
    }

    int way(int i) {
        if (!within(i, ring.size())) {
            return -1;
        }
        try {
            Q[] mote = closed(kicks, i);
            return mote == null ? -2 : tell(mote);
        } catch (Big big) {
            return -5;
        }
    }

    int answer(int m, int k) {
        if (!within(m, at(4).size()) || !within(k, kicks.size())) {
            return -1;
        }
        List<Q> only = new ArrayList<>();
        for (int i = 0; i < kicks.size(); i++) {
            only.add(i == k ? ONE : ZERO);
        }
        try {
            Q[] mote = closed(only, at(4).get(m));
            return mote == null ? -2 : tell(mote[0]);
        } catch (Big big) {
            return -5;
        }
    }

    int bump(int k, int l, int m) {
        if (!within(k, kicks.size()) || !within(l, kicks.size()) || !within(m, kicks.size()) || k >= l || l >= m) {
            return -1;
        }
        List<Integer> places = at(3);
        try {
            Q[] whole = tableOf(places.get(k), places.get(m) - places.get(k));
            Q[] half = tableOf(places.get(l), places.get(m) - places.get(l));
            if (half[1].sign() == 0) {
                return -2;
            }
            Q first = ZERO.minus(whole[1]).over(half[1]);
            return tell(first, ZERO.minus(whole[3]).minus(first.times(half[3])));
        } catch (Big big) {
            return -5;
        }
    }

    int number(int i, int what) {
        if (i < 0 || !within(what, 2)) {
            return -1;
        }
        if (i >= told.size()) {
            return -4;
        }
        return (what == 0 ? told.get(i).above : told.get(i).below).intValueExact();
    }

    // ---- the grid

    private static boolean isGrid(int p) {
        return p >= 3 && p <= 31 && BigInteger.valueOf(p).isProbablePrime(30);
    }

    /** The point behind each point, or null where a FRACTION has no remainder. */
    private int[] followers(int p) {
        BigInteger prime = BigInteger.valueOf(p);
        int[] strengths = new int[ring.size()];
        for (int i = 0; i < strengths.length; i++) {
            Q q = ring.get(i).strength;
            if (q.below.mod(prime).signum() == 0) {
                return null;
            }
            strengths[i] = q.above.multiply(q.below.modInverse(prime)).mod(prime).intValueExact();
        }
        int[] next = new int[p * p];
        for (int x0 = 0; x0 < p; x0++) {
            for (int y0 = 0; y0 < p; y0++) {
                int x = x0, y = y0;
                for (int i = 0; i < strengths.length; i++) {
                    int kind = ring.get(i).kind;
                    x = kind == 0 ? (x + strengths[i] * y) % p : x;
                    int loss = kind == 1 ? strengths[i] * x : kind == 2 ? strengths[i] * x * x : 0;
                    y = ((y - loss) % p + p) % p;
                }
                next[x0 * p + y0] = x * p + y;
            }
        }
        return next;
    }

    int grid(int p) {
        if (!isGrid(p) || ring.isEmpty()) {
            return -1;
        }
        int[] next = followers(p);
        if (next == null) {
            return -2;
        }
        int resting = 0, cycles = 0, longest = 0, least = 0;
        for (int point = 0; point < next.length; point++) {
            int lowest = point, length = 0, to = point;
            do {
                to = next[to];
                lowest = Math.min(lowest, to);
                length++;
            } while (to != point);
            resting += length == 1 ? 1 : 0;
            cycles += lowest == point ? 1 : 0;
            if (length > longest) {
                longest = length;
                least = lowest;
            }
        }
        rows = new int[] {p, cycles, longest, least};
        return resting;
    }

    int rows(int what) {
        return !within(what, 4) ? -1 : rows == null ? -4 : rows[what];
    }

    int after(int p, int x, int y, int n) {
        if (!isGrid(p) || ring.isEmpty() || !within(x, p) || !within(y, p) || !within(n, 1001)) {
            return -1;
        }
        int[] next = followers(p);
        if (next == null) {
            return -2;
        }
        int point = x * p + y;
        for (int i = 0; i < n; i++) {
            point = next[point];
        }
        return point;
    }

    int count(int what) {
        int[] counts = {text.length(), ring.size(), kicks.size(), at(4).size(), told.size()};
        return within(what, 5) ? counts[what] : -1;
    }
}
