/** All that the calls which change nothing tell of an object, as a text that can be compared. */
final class State {
    private static final String PLACE = " place ";

    private State() {
    }

    /** Some 20 calls, and 3 for each PART. */
    static String of(MagnetRing ring) {
        StringBuilder all = new StringBuilder("counts");
        for (int what = 0; what <= 4; what++) {
            all.append(' ').append(ring.count(what));
        }
        all.append(" numbers");
        for (int i = 0; i <= 4; i++) {
            all.append(' ').append(ring.number(i, 0)).append('/').append(ring.number(i, 1));
        }
        all.append(" rows");
        for (int what = 0; what <= 3; what++) {
            all.append(' ').append(ring.rows(what));
        }
        all.append(" parts");
        for (int i = 0; i <= ring.count(1); i++) {
            all.append(' ').append(ring.part(i, 0)).append(':').append(ring.part(i, 1)).append('/').append(ring.part(i, 2));
        }
        return all.append(PLACE).append(ring.place()).toString();
    }

    /** A read() that is refused changes what place() tells, and nothing else that is told here. */
    static String withoutPlace(String state) {
        return state.substring(0, state.indexOf(PLACE));
    }
}
