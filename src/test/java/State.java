/** What questions can tell of an object, as text. */
final class State {
    private State() {
    }

    /** Takes 34 of the object's 512 calls. */
    static String of(TabledRules t) {
        StringBuilder text = new StringBuilder("rules " + t.rules());
        text.append(pairs(t, 0));
        text.append(" redundant");
        for (int k = 0; k < 8; k++) {
            text.append(t.redundant(k) ? " 1" : " 0");
        }
        return text.toString();
    }

    /** The pairs of the relations from the first one told on. */
    static String pairs(TabledRules t, int first) {
        StringBuilder text = new StringBuilder();
        for (int p = first; p < 5; p++) {
            text.append(" relation ").append(p).append(':');
            for (int x = 0; x < 5; x++) {
                text.append(' ').append(t.from(p, x));
            }
        }
        return text.toString();
    }
}
