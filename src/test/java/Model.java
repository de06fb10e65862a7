import java.util.ArrayList;
import java.util.HashSet;
import java.util.List;
import java.util.Set;
import java.util.TreeSet;

/**
 * The document's terms a second time, by other ways than the program's, so that the two are not
 * wrong together: the closed sets are the intents of all sets of objects, the pseudo-closed sets
 * are found by their size, and the covers are the least ones among the greater closed sets.
 */
final class Model {
    final int objects;
    final int attributes;
    final TreeSet<Integer> closed = new TreeSet<>();
    final TreeSet<Integer> pseudo = new TreeSet<>();
    private final boolean[][] has;

    Model(int objects, int attributes, int[] rows) {
        this.objects = objects;
        this.attributes = attributes;
        has = new boolean[objects][attributes];
        for (int g = 0; g < objects; g++) {
            for (int a = 0; a < attributes; a++) {
                has[g][a] = contains(rows[g], a);
            }
        }
        for (int some = 0; some < 1 << objects; some++) {
            closed.add(intent(some));
        }
        for (int size = 0; size <= attributes; size++) {
            addPseudoClosed(size);
        }
    }

    int extent(int set) {
        int answer = 0;
        for (int g = 0; g < objects; g++) {
            boolean all = true;
            for (int a = 0; a < attributes; a++) {
                all &= has[g][a] || !contains(set, a);
            }
            answer += all ? 1 << g : 0;
        }
        return answer;
    }

    int intent(int some) {
        int answer = 0;
        for (int a = 0; a < attributes; a++) {
            boolean all = true;
            for (int g = 0; g < objects; g++) {
                all &= has[g][a] || !contains(some, g);
            }
            answer += all ? 1 << a : 0;
        }
        return answer;
    }

    // The meet of all closed sets that hold the set.
    int closure(int set) {
        int answer = (1 << attributes) - 1;
        for (int c : closed) {
            if (within(set, c)) {
                answer &= c;
            }
        }
        return answer;
    }

    int follows(int p, int q) {
        return within(extent(p), extent(q)) ? 1 : 0;
    }

    int covers(int set) {
        int lower = closure(set);
        List<Integer> least = new ArrayList<>();
        // From the smallest on: a greater one counts if it holds none of those found.
        for (int size = 0; size <= attributes; size++) {
            for (int c : closed) {
                if (Integer.bitCount(c) == size && c != lower && within(lower, c)
                        && least.stream().noneMatch(d -> within(d, c))) {
                    least.add(c);
                }
            }
        }
        return least.size();
    }

    int links() {
        int answer = 0;
        for (int c : closed) {
            answer += covers(c);
        }
        return answer;
    }

    int height() {
        return chainFrom(closure(0));
    }

    int generatorSize(int set) {
        int answer = attributes;
        for (int other = 0; other < 1 << attributes; other++) {
            if (extent(other) == extent(set)) {
                answer = Math.min(answer, Integer.bitCount(other));
            }
        }
        return answer;
    }

    int dispensable(int attribute) {
        Set<Integer> left = new HashSet<>();
        for (int c : closed) {
            left.add(c & ~(1 << attribute));
        }
        return left.size() == closed.size() ? 1 : 0;
    }

    private int chainFrom(int c) {
        int answer = 1;
        for (int d : closed) {
            if (d != c && within(c, d)) {
                answer = Math.max(answer, 1 + chainFrom(d));
            }
        }
        return answer;
    }

    private void addPseudoClosed(int size) {
        List<Integer> found = new ArrayList<>();
        for (int p = 0; p < 1 << attributes; p++) {
            int set = p;
            if (Integer.bitCount(p) == size && !closed.contains(p)
                    && pseudo.stream().allMatch(q -> !within(q, set) || within(closure(q), set))) {
                found.add(p);
            }
        }
        pseudo.addAll(found);
    }

    private static boolean contains(int set, int member) {
        return set / (1 << member) % 2 == 1;
    }

    private static boolean within(int part, int whole) {
        return (part | whole) == whole;
    }
}
