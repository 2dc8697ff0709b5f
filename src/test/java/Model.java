import java.util.Arrays;
import java.util.HashSet;
import java.util.List;
import java.util.Set;

/**
 * The document's words over sets of triples (relation, x, y), slow and plain. It shares no way of
 * holding the state with the program, so that the two do not err alike.
 */
final class Model {
    private final Set<List<Integer>> given = new HashSet<>();
    private final int[][] rules = new int[8][];

    private static boolean fits(int... numbers) {
        return Arrays.stream(numbers).allMatch(n -> n >= 0 && n <= 4);
    }

    boolean give(int g, int x, int y, boolean on) {
        if ((g != 0 && g != 1) || !fits(x, y)) {
            return false;
        }
        if (on) {
            given.add(List.of(g, x, y));
        } else {
            given.remove(List.of(g, x, y));
        }
        return true;
    }

    int rule(int form, int h, int qr) {
        for (int q = 0; q < 5; q++) {
            for (int r = 0; r < 5; r++) {
                if (qr == q + 8 * r && fits(form, h) && h >= 2) {
                    return addRule(form, h, q, r);
                }
            }
        }
        return -1;
    }

    private int addRule(int... rule) {
        for (int k = 0; k < 8; k++) {
            if (rules[k] == null) {
                rules[k] = rule;
                return k;
            }
        }
        return -2;
    }

    boolean drop(int k) {
        if (k < 0 || k > 7 || rules[k] == null) {
            return false;
        }
        rules[k] = null;
        return true;
    }

    int rules() {
        int bits = 0;
        for (int k = 0; k < 8; k++) {
            bits += rules[k] == null ? 0 : 1 << k;
        }
        return bits;
    }

    boolean holds(int p, int x, int y) {
        return least(given, rules).contains(List.of(p, x, y));
    }

    int from(int p, int x) {
        Set<List<Integer>> all = least(given, rules);
        int bits = 0;
        for (int y = 0; y < 5; y++) {
            bits += all.contains(List.of(p, x, y)) ? 1 << y : 0;
        }
        return bits;
    }

    int to(int p, int y) {
        Set<List<Integer>> all = least(given, rules);
        int bits = 0;
        for (int x = 0; x < 5; x++) {
            bits += all.contains(List.of(p, x, y)) ? 1 << x : 0;
        }
        return bits;
    }

    int count(int p) {
        return fits(p) ? pairs(least(given, rules), p).size() : -1;
    }

    boolean within(int p, int q) {
        Set<List<Integer>> all = least(given, rules);
        return fits(p, q) && pairs(all, q).containsAll(pairs(all, p));
    }

    boolean redundant(int k) {
        if (k < 0 || k > 7 || rules[k] == null) {
            return false;
        }
        int[][] fewer = rules.clone();
        fewer[k] = null;
        return least(given, fewer).equals(least(given, rules));
    }

    int loss(int p, int g, int x, int y) {
        if ((g != 0 && g != 1) || !fits(p, x, y)) {
            return -1;
        }
        Set<List<Integer>> fewer = new HashSet<>(given);
        if (!fewer.remove(List.of(g, x, y))) {
            return 0;
        }
        Set<List<Integer>> lost = pairs(least(given, rules), p);
        lost.removeAll(pairs(least(fewer, rules), p));
        return lost.size();
    }

    boolean transitive(int p) {
        Set<List<Integer>> some = pairs(least(given, rules), p);
        for (List<Integer> a : some) {
            for (List<Integer> b : some) {
                if (a.get(1).equals(b.get(0)) && !some.contains(List.of(a.get(0), b.get(1)))) {
                    return false;
                }
            }
        }
        return fits(p);
    }

    private static Set<List<Integer>> pairs(Set<List<Integer>> all, int p) {
        Set<List<Integer>> some = new HashSet<>();
        for (List<Integer> triple : all) {
            if (triple.get(0) == p) {
                some.add(List.of(triple.get(1), triple.get(2)));
            }
        }
        return some;
    }

    private static Set<List<Integer>> least(Set<List<Integer>> ground, int[][] rules) {
        Set<List<Integer>> all = new HashSet<>(ground);
        boolean grown = true;
        while (grown) {
            grown = false;
            for (int[] rule : rules) {
                grown |= rule != null && all.addAll(heads(all, rule));
            }
        }
        return all;
    }

    private static Set<List<Integer>> heads(Set<List<Integer>> all, int[] rule) {
        Set<List<Integer>> found = new HashSet<>();
        for (int x = 0; x < 5; x++) {
            for (int y = 0; y < 5; y++) {
                if (follows(all, rule[0], rule[2], rule[3], x, y)) {
                    found.add(List.of(rule[1], x, y));
                }
            }
        }
        return found;
    }

    private static boolean follows(Set<List<Integer>> all, int form, int q, int r, int x, int y) {
        boolean inQ = all.contains(List.of(q, x, y));
        boolean inR = all.contains(List.of(r, x, y));
        boolean joined = false;
        boolean starts = false;
        for (int z = 0; z < 5; z++) {
            joined |= all.contains(List.of(q, x, z)) && all.contains(List.of(r, z, y));
            starts |= all.contains(List.of(r, x, z));
        }
        return switch (form) {
            case 0 -> inQ;
            case 1 -> all.contains(List.of(q, y, x));
            case 2 -> joined;
            case 3 -> inQ && inR;
            default -> inQ && starts;
        };
    }
}
