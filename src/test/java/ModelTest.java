import java.util.ArrayList;
import java.util.Arrays;
import java.util.List;

/** Every question about many tables, against the model: all small tables, and a spread of others. */
public final class ModelTest {
    private static final Check CHECK = new Check();
    // A fixed start, so that every run asks the same.
    private static long state = 20261115L;

    public static void main(String[] args) {
        for (int n = 1; n <= 3; n++) {
            for (int m = 2; m <= 3; m++) {
                everyTable(n, m);
            }
        }
        for (int n = 1; n <= 8; n++) {
            for (int m = 2; m <= 7; m++) {
                for (int round = 0; round < 12; round++) {
                    compare(m, spread(n, m, round));
                }
            }
        }
        for (int round = 0; round < 200; round++) {
            walk(1 + next(8), 2 + next(6));
        }
        CHECK.end();
    }

    private static void everyTable(int n, int m) {
        for (int code = 0; code < 1 << n * m; code++) {
            int[] rows = new int[n];
            for (int g = 0; g < n; g++) {
                rows[g] = code >> g * m & (1 << m) - 1;
            }
            compare(m, rows);
        }
    }

    // Thin, even and thick tables in turn: each kind has closed sets and rules of another shape.
    private static int[] spread(int n, int m, int round) {
        int[] rows = new int[n];
        for (int g = 0; g < n; g++) {
            int one = next(1 << m);
            int two = next(1 << m);
            rows[g] = round % 3 == 0 ? one & two : round % 3 == 1 ? one : one | two;
        }
        return rows;
    }

    private static ConceptLattice made(int m, int[] rows) {
        ConceptLattice x = new ConceptLattice(rows.length, m);
        for (int g = 0; g < rows.length; g++) {
            x.row(g, rows[g]);
        }
        return x;
    }

    // New objects in between, since an object is promised to serve for 512 calls alone.
    private static void compare(int m, int[] rows) {
        Model model = new Model(rows.length, m, rows);
        String name = "m " + m + ", rows " + Arrays.toString(rows) + ": ";
        wholes(name, made(m, rows), model);
        lists(name, made(m, rows), model);
        objectSets(name, made(m, rows), model);
        attributeSets(name, made(m, rows), made(m, rows), model);
        pairs(name, made(m, rows), model);
    }

    private static void wholes(String name, ConceptLattice x, Model model) {
        // Twice, since no question may change anything.
        for (int round = 0; round < 2; round++) {
            CHECK.due(name + "closedSets()", x.closedSets(), model.closed.size());
            CHECK.due(name + "rules()", x.rules(), model.pseudo.size());
            CHECK.due(name + "links()", x.links(), model.links());
            CHECK.due(name + "height()", x.height(), model.height());
            for (int a = 0; a < model.attributes; a++) {
                CHECK.due(name + "dispensable(" + a + ")", x.dispensable(a), model.dispensable(a));
            }
        }
        CHECK.due(name + "dispensable(m)", x.dispensable(model.attributes), -1);
    }

    private static void lists(String name, ConceptLattice x, Model model) {
        List<Integer> closed = new ArrayList<>(model.closed);
        List<Integer> pseudo = new ArrayList<>(model.pseudo);
        for (int i = -1; i <= 1 << model.attributes; i++) {
            int closedDue = i >= 0 && i < closed.size() ? closed.get(i) : -1;
            int pseudoDue = i >= 0 && i < pseudo.size() ? pseudo.get(i) : -1;
            Integer higher = model.closed.higher(i);
            CHECK.due(name + "closedSet(" + i + ")", x.closedSet(i), closedDue);
            CHECK.due(name + "rule(" + i + ")", x.rule(i), pseudoDue);
            CHECK.due(name + "nextClosed(" + i + ")", x.nextClosed(i), higher == null ? -1 : higher);
        }
    }

    private static void objectSets(String name, ConceptLattice x, Model model) {
        for (int some = 0; some < 1 << model.objects; some++) {
            CHECK.due(name + "intent(" + some + ")", x.intent(some), model.intent(some));
        }
        CHECK.due(name + "intent(2^n)", x.intent(1 << model.objects), -1);
    }

    private static void attributeSets(String name, ConceptLattice x, ConceptLattice y, Model model) {
        for (int set = 0; set < 1 << model.attributes; set++) {
            CHECK.due(name + "extent(" + set + ")", x.extent(set), model.extent(set));
            CHECK.due(name + "closure(" + set + ")", x.closure(set), model.closure(set));
            CHECK.due(name + "covers(" + set + ")", y.covers(set), model.covers(set));
            CHECK.due(name + "generatorSize(" + set + ")", y.generatorSize(set), model.generatorSize(set));
        }
    }

    private static void pairs(String name, ConceptLattice x, Model model) {
        for (int round = 0; round < 100; round++) {
            int p = next(1 << model.attributes);
            int q = next(1 << model.attributes);
            CHECK.due(name + "follows(" + p + ", " + q + ")", x.follows(p, q), model.follows(p, q));
            CHECK.due(name + "follows of a part", x.follows(p, p & q), 1);
        }
    }

    // One object through 500 calls, so that changes, refusals and questions stand in any order.
    private static void walk(int n, int m) {
        ConceptLattice x = new ConceptLattice(n, m);
        int[] rows = new int[n];
        for (int step = 0; step < 100; step++) {
            if (next(2) == 0) {
                walkCross(x, rows, m, next(n + 2) - 1, next(m + 2) - 1);
            } else {
                walkRow(x, rows, m, next(n + 2) - 1, next((1 << m) + 2) - 1);
            }
            Model model = new Model(n, m, rows);
            int g = next(n);
            int set = next(1 << m);
            CHECK.due("walk: rowOf(" + g + ")", x.rowOf(g), rows[g]);
            CHECK.due("walk: rules()", x.rules(), model.pseudo.size());
            CHECK.due("walk: height()", x.height(), model.height());
            CHECK.due("walk: covers(" + set + ")", x.covers(set), model.covers(set));
        }
    }

    private static void walkCross(ConceptLattice x, int[] rows, int m, int g, int a) {
        int flag = next(3) - 1;
        int due;
        if (g < 0 || g >= rows.length) {
            due = -1;
        } else if (a < 0 || a >= m) {
            due = -2;
        } else {
            due = rows[g] >> a & 1;
            rows[g] = rows[g] - (due << a) + (flag == 0 ? 0 : 1 << a);
        }
        CHECK.due("walk: cross(" + g + ", " + a + ", " + flag + ")", x.cross(g, a, flag), due);
    }

    private static void walkRow(ConceptLattice x, int[] rows, int m, int g, int set) {
        int due;
        if (g < 0 || g >= rows.length) {
            due = -1;
        } else if (set < 0 || set >= 1 << m) {
            due = -2;
        } else {
            due = rows[g];
            rows[g] = set;
        }
        CHECK.due("walk: row(" + g + ", " + set + ")", x.row(g, set), due);
    }

    private static int next(int bound) {
        state = state * 6364136223846793005L + 1442695040888963407L;
        return (int) ((state >>> 33) % bound);
    }
}
