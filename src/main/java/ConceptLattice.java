/** The closed sets of a table of objects and attributes, and the rules that hold in it. */
public final class ConceptLattice {
    private static final int LEAST_OBJECTS = 1;
    private static final int MOST_OBJECTS = 8;
    private static final int LEAST_ATTRIBUTES = 2;
    private static final int MOST_ATTRIBUTES = 7;
    // 2 to the power MOST_ATTRIBUTES.
    private static final int MOST_SETS = 128;

    private final int objectCount;
    private final int attributeCount;
    // How many sets of attributes there are: every good set is below it.
    private final int setCount;

    // The whole state: each answer is worked out from the rows, so that none can be out of date.
    private final int[] rows = new int[MOST_OBJECTS];

    // Room to work in. Each is filled anew by the call that reads it.
    private final boolean[] pseudo = new boolean[MOST_SETS];
    private final int[] longest = new int[MOST_SETS];

    public ConceptLattice(int objects, int attributes) {
        objectCount = clamp(objects, LEAST_OBJECTS, MOST_OBJECTS);
        attributeCount = clamp(attributes, LEAST_ATTRIBUTES, MOST_ATTRIBUTES);
        setCount = 1 << attributeCount;
    }

    public int objects() {
        return objectCount;
    }

    public int attributes() {
        return attributeCount;
    }

    public int cross(int object, int attribute, int flag) {
        if (!isGoodObject(object)) {
            return -1;
        }
        if (!isGoodAttribute(attribute)) {
            return -2;
        }
        int bit = 1 << attribute;
        int before = (rows[object] & bit) != 0 ? 1 : 0;
        if (flag != 0) {
            rows[object] |= bit;
        } else {
            rows[object] &= ~bit;
        }
        return before;
    }

    public int row(int object, int set) {
        if (!isGoodObject(object)) {
            return -1;
        }
        if (!isGoodSet(set)) {
            return -2;
        }
        int before = rows[object];
        rows[object] = set;
        return before;
    }

    public int rowOf(int object) {
        return isGoodObject(object) ? rows[object] : -1;
    }

    public int extent(int set) {
        if (!isGoodSet(set)) {
            return -1;
        }
        int having = 0;
        for (int object = 0; object < objectCount; object++) {
            if (isPart(set, rows[object])) {
                having |= 1 << object;
            }
        }
        return having;
    }

    public int intent(int set) {
        if (set < 0 || set >= 1 << objectCount) {
            return -1;
        }
        int shared = setCount - 1;
        for (int object = 0; object < objectCount; object++) {
            if ((set & 1 << object) != 0) {
                shared &= rows[object];
            }
        }
        return shared;
    }

    public int closure(int set) {
        return isGoodSet(set) ? closureOf(set) : -1;
    }

    public int closedSets() {
        int count = 0;
        for (int set = 0; set < setCount; set++) {
            if (isClosed(set)) {
                count++;
            }
        }
        return count;
    }

    public int closedSet(int i) {
        int index = 0;
        for (int set = 0; set < setCount; set++) {
            if (isClosed(set)) {
                if (index == i) {
                    return set;
                }
                index++;
            }
        }
        return -1;
    }

    public int nextClosed(int after) {
        // Every set is compared with after: after + 1 would wrap around for the greatest int.
        for (int set = 0; set < setCount; set++) {
            if (set > after && isClosed(set)) {
                return set;
            }
        }
        return -1;
    }

    public int follows(int p, int q) {
        if (!isGoodSet(p) || !isGoodSet(q)) {
            return -1;
        }
        int closed = closureOf(p);
        return isPart(q, closed) ? 1 : 0;
    }

    public int rules() {
        markPseudoClosed();
        int count = 0;
        for (int set = 0; set < setCount; set++) {
            if (pseudo[set]) {
                count++;
            }
        }
        return count;
    }

    public int rule(int i) {
        markPseudoClosed();
        int index = 0;
        for (int set = 0; set < setCount; set++) {
            if (pseudo[set]) {
                if (index == i) {
                    return set;
                }
                index++;
            }
        }
        return -1;
    }

    public int covers(int set) {
        if (!isGoodSet(set)) {
            return -1;
        }
        int closed = closureOf(set);
        return countCovers(closed);
    }

    public int links() {
        int count = 0;
        for (int set = 0; set < setCount; set++) {
            if (isClosed(set)) {
                count += countCovers(set);
            }
        }
        return count;
    }

    public int height() {
        int greatest = 0;
        // A proper part has a smaller number, so its longest chain is known when it is needed.
        for (int set = 0; set < setCount; set++) {
            longest[set] = isClosed(set) ? longestBelow(set) + 1 : 0;
            if (longest[set] > greatest) {
                greatest = longest[set];
            }
        }
        return greatest;
    }

    public int generatorSize(int set) {
        if (!isGoodSet(set)) {
            return -1;
        }
        int closed = closureOf(set);
        int least = attributeCount;
        for (int other = 0; other < setCount; other++) {
            int size = sizeOf(other);
            if (size < least && closureOf(other) == closed) {
                least = size;
            }
        }
        return least;
    }

    public int dispensable(int attribute) {
        if (!isGoodAttribute(attribute)) {
            return -1;
        }
        int bit = 1 << attribute;
        for (int set = 0; set < setCount; set++) {
            if ((set & bit) == 0 && isClosed(set) && isClosed(set | bit)) {
                return 0;
            }
        }
        return 1;
    }

    private static int clamp(int value, int low, int high) {
        if (value < low) {
            return low;
        }
        return value > high ? high : value;
    }

    private boolean isGoodObject(int object) {
        return object >= 0 && object < objectCount;
    }

    private boolean isGoodAttribute(int attribute) {
        return attribute >= 0 && attribute < attributeCount;
    }

    private boolean isGoodSet(int set) {
        return set >= 0 && set < setCount;
    }

    private static boolean isPart(int part, int whole) {
        return (part & whole) == part;
    }

    private static boolean isProperPart(int part, int whole) {
        return part != whole && (part & whole) == part;
    }

    private static int sizeOf(int set) {
        int size = 0;
        for (int attribute = 0; attribute < MOST_ATTRIBUTES; attribute++) {
            size += set >> attribute & 1;
        }
        return size;
    }

    // The intent of the extent, in one walk over the objects.
    private int closureOf(int set) {
        int shared = setCount - 1;
        for (int object = 0; object < objectCount; object++) {
            if (isPart(set, rows[object])) {
                shared &= rows[object];
            }
        }
        return shared;
    }

    private boolean isClosed(int set) {
        return closureOf(set) == set;
    }

    private void markPseudoClosed() {
        // A proper part has a smaller number, so it is marked before it is asked for.
        for (int set = 0; set < setCount; set++) {
            pseudo[set] = !isClosed(set) && holdsMarkedClosures(set);
        }
    }

    private boolean holdsMarkedClosures(int set) {
        for (int part = 0; part < set; part++) {
            if (pseudo[part] && isPart(part, set)) {
                int closed = closureOf(part);
                if (!isPart(closed, set)) {
                    return false;
                }
            }
        }
        return true;
    }

    private int countCovers(int lower) {
        int count = 0;
        for (int upper = lower + 1; upper < setCount; upper++) {
            if (isProperPart(lower, upper) && isClosed(upper) && !hasClosedBetween(lower, upper)) {
                count++;
            }
        }
        return count;
    }

    private boolean hasClosedBetween(int lower, int upper) {
        for (int set = lower + 1; set < upper; set++) {
            if (isProperPart(lower, set) && isProperPart(set, upper) && isClosed(set)) {
                return true;
            }
        }
        return false;
    }

    private int longestBelow(int set) {
        int greatest = 0;
        for (int part = 0; part < set; part++) {
            if (isPart(part, set) && longest[part] > greatest) {
                greatest = longest[part];
            }
        }
        return greatest;
    }
}
