/** Everything that questions can tell of an object, as one text. */
final class State {
    private State() {
    }

    static String of(TabledRules t) {
        StringBuilder text = new StringBuilder("rules " + t.rules());
        for (int p = 0; p < 5; p++) {
            text.append(" relation ").append(p).append(':');
            for (int x = 0; x < 5; x++) {
                text.append(' ').append(t.from(p, x));
            }
        }
        text.append(" redundant");
        for (int k = 0; k < 8; k++) {
            text.append(t.redundant(k) ? " 1" : " 0");
        }
        return text.toString();
    }
}
