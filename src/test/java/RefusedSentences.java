import java.util.function.Supplier;
import java.util.function.ToIntFunction;

/** Calls that are refused: which answer comes first, and that nothing changes; promises 2 and 5 to 18. */
final class RefusedSentences {
    private static final int BAD = MagnetRing.BAD, NO = MagnetRing.NO, FULL = MagnetRing.FULL, NONE = MagnetRing.NONE,
            BIG = MagnetRing.BIG;

    private RefusedSentences() {
    }

    static void all() {
        bad();
        badWithoutRing();
        notAsThingsStand();
        full();
        big();
        none();
        firstOfSeveral();
    }

    /** Has a TEXT begun, KICKS, a place, numbers and a GRID told. */
    private static MagnetRing prepared(String text) {
        MagnetRing ring = new MagnetRing();
        Check.read(ring, text);
        for (int k = 0; k < ring.count(2); k++) {
            ring.kick(k, 2 * k + 1, 7 - k);
        }
        Check.read(ring, "r=k k $");
        Check.feed(ring, "r=d 3 k");
        ring.table(0, 2);
        ring.grid(7);
        return ring;
    }

    private static MagnetRing stable() {
        return prepared("r=k d 1 q 1/2 k m d 2 q 1/3 k;");
    }

    private static MagnetRing edge() {
        return prepared("r=k d 1 d 1/3 k m k;");
    }

    private static MagnetRing beyond() {
        return prepared("r=k d 9999 q 9999 k m d 9999 k;");
    }

    private static MagnetRing fullText() {
        MagnetRing ring = prepared("r=k d 1 k;");
        Check.feed(ring, ";" + " ".repeat(1487));
        return ring;
    }

    /** What the other calls answer in turn: the same, if nothing has changed that can't be looked at. */
    private static String later(MagnetRing ring) {
        StringBuilder all = new StringBuilder();
        all.append(ring.way(1)).append(' ').append(ring.number(0, 0)).append('/').append(ring.number(0, 1));
        all.append(' ').append(ring.answer(0, 1)).append(' ').append(ring.number(0, 0));
        all.append(' ').append(ring.bump(0, 1, 2)).append(' ').append(ring.number(0, 0));
        all.append(' ').append(ring.table(1, 3)).append(' ').append(ring.number(3, 0)).append('/').append(ring.number(3, 1));
        all.append(' ').append(ring.widths(0)).append(' ').append(ring.turns()).append(' ').append(ring.round(2));
        all.append(' ').append(ring.after(5, 1, 2, 3)).append(' ').append(ring.grid(11)).append(' ').append(ring.rows(3));
        all.append(' ').append(ring.feed(2, ' ' << 8 | ';')).append(' ').append(ring.read());
        return all.append(' ').append(ring.place()).append(' ').append(State.of(ring)).toString();
    }

    private static void refused(String what, Supplier<MagnetRing> made, ToIntFunction<MagnetRing> call, int due) {
        MagnetRing ring = made.get(), other = made.get();
        String before = State.of(ring);
        Check.same(what, call.applyAsInt(ring), due);
        Check.alike(what + ": what is told", State.of(ring), before);
        Check.alike(what + ": what comes later", later(ring), later(other));
    }

    private static void bad() {
        Sentence.of(6, "BAD: a number is none that is told, there is no such thing.");
        Supplier<MagnetRing> made = RefusedSentences::stable;
        refused("feed(0)", made, r -> r.feed(0, 'k'), BAD);
        refused("feed(9)", made, r -> r.feed(9, 'k'), BAD);
        refused("part(8, 0)", made, r -> r.part(8, 0), BAD);
        refused("part(0, 3)", made, r -> r.part(0, 3), BAD);
        refused("kick(3, 1, 1)", made, r -> r.kick(3, 1, 1), BAD);
        refused("kick(0, 10001, 1)", made, r -> r.kick(0, 10001, 1), BAD);
        refused("kick(0, -10001, 1)", made, r -> r.kick(0, -10001, 1), BAD);
        refused("kick(0, 1, 0)", made, r -> r.kick(0, 1, 0), BAD);
        refused("kick(0, 1, 10001)", made, r -> r.kick(0, 1, 10001), BAD);
        refused("table(8, 1)", made, r -> r.table(8, 1), BAD);
        refused("table(0, 201)", made, r -> r.table(0, 201), BAD);
        refused("round(8)", made, r -> r.round(8), BAD);
        refused("widths(-1)", made, r -> r.widths(-1), BAD);
        refused("way(8)", made, r -> r.way(8), BAD);
        refused("answer(1, 0)", made, r -> r.answer(1, 0), BAD);
        refused("answer(0, 3)", made, r -> r.answer(0, 3), BAD);
        refused("bump(0, 2, 1)", made, r -> r.bump(0, 2, 1), BAD);
        refused("bump(1, 2, 3)", made, r -> r.bump(1, 2, 3), BAD);
        refused("number(-1, 0)", made, r -> r.number(-1, 0), BAD);
        refused("number(0, 2)", made, r -> r.number(0, 2), BAD);
        refused("grid(9)", made, r -> r.grid(9), BAD);
        refused("rows(4)", made, r -> r.rows(4), BAD);
        refused("after(9, 0, 0, 1)", made, r -> r.after(9, 0, 0, 1), BAD);
        refused("after(5, 5, 0, 1)", made, r -> r.after(5, 5, 0, 1), BAD);
        refused("after(5, 0, 0, 1001)", made, r -> r.after(5, 0, 0, 1001), BAD);
        refused("count(5)", made, r -> r.count(5), BAD);
    }

    private static void badWithoutRing() {
        Sentence.of(5, "BAD: a number is none that is told, there is no such thing.");
        Supplier<MagnetRing> made = () -> {
            MagnetRing ring = new MagnetRing();
            Check.feed(ring, "r=d 3 k");
            return ring;
        };
        refused("part", made, r -> r.part(0, 0), BAD);
        refused("kick", made, r -> r.kick(0, 1, 1), BAD);
        refused("table", made, r -> r.table(0, 0), BAD);
        refused("round", made, r -> r.round(0), BAD);
        refused("widths", made, r -> r.widths(0), BAD);
        refused("turns", made, r -> r.turns(), BAD);
        refused("way", made, r -> r.way(0), BAD);
        refused("answer", made, r -> r.answer(0, 0), BAD);
        refused("bump", made, r -> r.bump(0, 1, 2), BAD);
        refused("grid", made, r -> r.grid(3), BAD);
        refused("after", made, r -> r.after(3, 0, 0, 0), BAD);
    }

    private static void notAsThingsStand() {
        Sentence.of(9, "NO: not as things stand.");
        Supplier<MagnetRing> made = RefusedSentences::edge;
        refused("widths", made, r -> r.widths(0), NO);
        refused("turns", made, r -> r.turns(), NO);
        refused("way", made, r -> r.way(0), NO);
        refused("way, the last PART", made, r -> r.way(5), NO);
        refused("answer", made, r -> r.answer(0, 1), NO);
        refused("bump", made, r -> r.bump(0, 1, 2), NO);
        refused("grid", made, r -> r.grid(3), NO);
        refused("after", made, r -> r.after(3, 1, 1, 1), NO);
        refused("grid of another", RefusedSentences::stable, r -> r.grid(3), NO);
        refused("after of another", RefusedSentences::stable, r -> r.after(3, 2, 2, 1000), NO);
    }

    private static void full() {
        Sentence.of(2, "FULL; BIG.");
        Supplier<MagnetRing> made = () -> {
            MagnetRing ring = fullText();
            ring.feed(1, ' ');
            return ring;
        };
        refused("feed(8) with 1495", RefusedSentences::fullText, r -> r.feed(8, -1L), FULL);
        refused("feed(6) with 1495", RefusedSentences::fullText, r -> r.feed(6, -1L), FULL);
        refused("feed(5) with 1496", made, r -> r.feed(5, -1L), FULL);
    }

    private static void big() {
        Sentence.of(7, "FULL; BIG.");
        Supplier<MagnetRing> made = RefusedSentences::beyond;
        refused("table", made, r -> r.table(0, 7), BIG);
        refused("table, 200 PARTS", made, r -> r.table(6, 200), BIG);
        refused("round", made, r -> r.round(0), BIG);
        refused("widths", made, r -> r.widths(0), BIG);
        refused("turns", made, r -> r.turns(), BIG);
        refused("way", made, r -> r.way(0), BIG);
        refused("answer", made, r -> r.answer(0, 1), BIG);
        refused("bump", made, r -> r.bump(0, 1, 2), BIG);
    }

    private static void none() {
        Sentence.of(14, "Of several the first; nothing changes then.");
        refused("number(4, 0)", RefusedSentences::stable, r -> r.number(4, 0), NONE);
        Supplier<MagnetRing> made = () -> Check.ring("r=k d 1 q 1/2 k m k;");
        refused("rows(0)", made, r -> r.rows(0), NONE);
        refused("number(0, 0)", made, r -> r.number(0, 0), NONE);
    }

    /** BAD is ahead of all others. */
    private static void firstOfSeveral() {
        Sentence.of(5, "Of several the first; nothing changes then.");
        Supplier<MagnetRing> edge = RefusedSentences::edge, beyond = RefusedSentences::beyond;
        refused("feed: BAD, FULL", RefusedSentences::fullText, r -> r.feed(9, -1L), BAD);
        refused("widths: BAD, NO", edge, r -> r.widths(6), BAD);
        refused("way: BAD, NO", edge, r -> r.way(6), BAD);
        refused("answer: BAD, NO", edge, r -> r.answer(0, 3), BAD);
        refused("bump: BAD, NO", edge, r -> r.bump(0, 1, 1), BAD);
        refused("grid: BAD, NO", () -> prepared("r=k d 1/9 k;"), r -> r.grid(9), BAD);
        refused("after: BAD, NO", edge, r -> r.after(3, 0, 3, 1), BAD);
        refused("table: BAD, BIG", beyond, r -> r.table(0, 201), BAD);
        refused("round: BAD, BIG", beyond, r -> r.round(7), BAD);
        refused("widths: BAD, BIG", beyond, r -> r.widths(7), BAD);
        refused("way: BAD, BIG", beyond, r -> r.way(7), BAD);
        refused("answer: BAD, BIG", beyond, r -> r.answer(1, 0), BAD);
        refused("bump: BAD, BIG", beyond, r -> r.bump(0, 1, 3), BAD);
        refused("number: BAD, NONE", RefusedSentences::stable, r -> r.number(4, 2), BAD);
        refused("rows: BAD, NONE", () -> Check.ring("r=k d 1 k;"), r -> r.rows(4), BAD);
    }
}
