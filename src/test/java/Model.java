import java.util.ArrayList;
import java.util.List;

/** The document put into Java as plainly as it goes, with lists and recursion, to compare the program with. */
final class Model {
    private final int termCapacity;
    private final int patternCapacity;
    private final int rowCapacity;
    private final List<Integer> arities = new ArrayList<>();
    private final List<int[]> terms = new ArrayList<>();
    private final List<int[]> patterns = new ArrayList<>();
    private final List<Integer> used = new ArrayList<>();
    private final List<int[]> rows = new ArrayList<>();
    private boolean compiled = false;
    private int lastRow = -1;
    private int[] bindings = unbound();
    private final List<Integer> log = new ArrayList<>();

    Model(int termCapacity, int patternCapacity, int rowCapacity) {
        this.termCapacity = Math.max(8, Math.min(64, termCapacity));
        this.patternCapacity = Math.max(8, Math.min(64, patternCapacity));
        this.rowCapacity = Math.max(1, Math.min(8, rowCapacity));
    }

    private static int[] unbound() {
        return new int[] {-1, -1, -1, -1, -1, -1, -1, -1};
    }

    private static boolean within(int i, int size) {
        return 0 <= i && i < size;
    }

    int defCons(int arity) {
        if (!terms.isEmpty() || !patterns.isEmpty() || arities.size() == 8 || !within(arity, 3)) {
            return -1;
        }
        arities.add(arity);
        return arities.size() - 1;
    }

    int term(int c, int t0, int t1) {
        if (!within(c, arities.size())) {
            return -1;
        }
        int[] node = new int[1 + arities.get(c)];
        node[0] = c;
        for (int i = 1; i < node.length; i++) {
            node[i] = i == 1 ? t0 : t1;
            if (!within(node[i], terms.size())) {
                return -1;
            }
        }
        for (int t = 0; t < terms.size(); t++) {
            if (java.util.Arrays.equals(terms.get(t), node)) {
                return t;
            }
        }
        if (terms.size() == termCapacity) {
            return -1;
        }
        terms.add(node);
        return terms.size() - 1;
    }

    int pat(int kind, int a, int b, int c) {
        if (compiled || patterns.size() == patternCapacity || !within(kind, 4)) {
            return -1;
        }
        List<Integer> children = new ArrayList<>();
        if (kind == 1) {
            if (!within(a, 8)) {
                return -1;
            }
            children.add(b);
        } else if (kind == 2) {
            if (!within(a, arities.size())) {
                return -1;
            }
            if (arities.get(a) >= 1) {
                children.add(b);
            }
            if (arities.get(a) == 2) {
                children.add(c);
            }
        } else if (kind == 3) {
            children.add(a);
            children.add(b);
        }
        for (int child : children) {
            if (!within(child, patterns.size()) || used.contains(child)) {
                return -1;
            }
        }
        if (children.size() == 2 && children.get(0).equals(children.get(1))) {
            return -1;
        }
        used.addAll(children);
        patterns.add(new int[] {kind, a, b, c});
        return patterns.size() - 1;
    }

    int addRow(int p, int guardKind, int g1, int g2) {
        if (compiled || rows.size() == rowCapacity || !within(p, patterns.size()) || used.contains(p) || !within(guardKind, 5)) {
            return -1;
        }
        if (guardKind != 0 && !within(g1, 8)) {
            return -1;
        }
        if ((guardKind == 1 || guardKind == 2) && !within(g2, 8)) {
            return -1;
        }
        if (guardKind == 3 && !within(g2, arities.size())) {
            return -1;
        }
        used.add(p);
        rows.add(new int[] {p, guardKind, g1, g2});
        return rows.size() - 1;
    }

    int compile() {
        if (compiled) {
            return -1;
        }
        compiled = true;
        return rows.size();
    }

    void reset() {
        patterns.clear();
        used.clear();
        rows.clear();
        compiled = false;
        lastRow = -1;
        bindings = unbound();
        log.clear();
    }

    /** The writes of pattern p on term t as pairs in their order, or null if it does not match. */
    private List<int[]> writes(int p, int t) {
        int[] node = patterns.get(p);
        List<int[]> list = new ArrayList<>();
        if (node[0] == 1) {
            list = writes(node[2], t);
            if (list != null) {
                list.add(new int[] {node[1], t});
            }
        } else if (node[0] == 2) {
            int[] subject = terms.get(t);
            if (subject[0] != node[1]) {
                return null;
            }
            for (int i = 1; i < subject.length; i++) {
                List<int[]> part = writes(node[1 + i], subject[i]);
                if (part == null) {
                    return null;
                }
                list.addAll(part);
            }
        } else if (node[0] == 3) {
            list = writes(node[1], t);
            if (list == null) {
                list = writes(node[2], t);
            }
        }
        return list;
    }

    private boolean holds(int[] row, int[] b) {
        int x = b[row[2]];
        switch (row[1]) {
            case 1:
                return x != -1 && b[row[3]] != -1 && x == b[row[3]];
            case 2:
                return x != -1 && b[row[3]] != -1 && x != b[row[3]];
            case 3:
                return x != -1 && terms.get(x)[0] == row[3];
            default:
                return x != -1 && termHeight(x) <= row[3];
        }
    }

    int match(int t) {
        if (!compiled || !within(t, terms.size())) {
            return -2;
        }
        lastRow = -1;
        bindings = unbound();
        log.clear();
        for (int r = 0; r < rows.size(); r++) {
            int[] row = rows.get(r);
            List<int[]> list = writes(row[0], t);
            if (list == null) {
                continue;
            }
            int[] b = unbound();
            for (int[] write : list) {
                b[write[0]] = write[1];
            }
            if (row[1] != 0) {
                log.add(r);
                if (!holds(row, b)) {
                    continue;
                }
            }
            lastRow = r;
            bindings = b;
            break;
        }
        return lastRow;
    }

    boolean rowPatternMatches(int r, int t) {
        return within(r, rows.size()) && within(t, terms.size()) && writes(rows.get(r)[0], t) != null;
    }

    int lastRow() {
        return lastRow;
    }

    int binding(int x) {
        return within(x, 8) ? bindings[x] : -1;
    }

    int guardLogLength() {
        return log.size();
    }

    int guardLogAt(int i) {
        return within(i, log.size()) ? log.get(i) : -1;
    }

    int termHeight(int t) {
        if (!within(t, terms.size())) {
            return -1;
        }
        int below = 0;
        for (int i = 1; i < terms.get(t).length; i++) {
            below = Math.max(below, termHeight(terms.get(t)[i]));
        }
        return 1 + below;
    }

    int count(int what) {
        int[] counts = {arities.size(), terms.size(), patterns.size(), rows.size(), compiled ? 1 : 0};
        return within(what, 5) ? counts[what] : -1;
    }
}
