/** The tables that several tests ask about. */
final class Tables {
    static final int LEAST = Integer.MIN_VALUE;
    static final int MOST = Integer.MAX_VALUE;

    private Tables() {
    }

    static ConceptLattice table(int attributes, int... rows) {
        ConceptLattice x = new ConceptLattice(rows.length, attributes);
        for (int object = 0; object < rows.length; object++) {
            x.row(object, rows[object]);
        }
        return x;
    }

    /** Every object has every attribute: all attributes together are the only closed set. */
    static ConceptLattice full(int objects, int attributes) {
        int[] rows = new int[objects];
        for (int object = 0; object < objects; object++) {
            rows[object] = (1 << attributes) - 1;
        }
        return table(attributes, rows);
    }

    /** Each object lacks one attribute, and each attribute is lacked: every set is closed. */
    static ConceptLattice allParts(int attributes) {
        int[] rows = new int[attributes];
        for (int object = 0; object < attributes; object++) {
            rows[object] = (1 << attributes) - 1 - (1 << object);
        }
        return table(attributes, rows);
    }

    /**
     * Objects 0 {0,1}, 1 {1,2}, 2 {0,1,2}; no object has attribute 3.
     * Closed: {1}, {0,1}, {1,2}, {0,1,2}, {0,1,2,3}.
     */
    static ConceptLattice kite() {
        return table(4, 3, 6, 7);
    }

    /** The closed sets are 0, 1, 3, 4 and 7: a pentagon, with chains of different length. */
    static ConceptLattice pentagon() {
        return table(3, 3, 1, 4);
    }

    /** Wrong for anything that must be 0 .. end - 1; the last ones wrap around when shifted or narrowed. */
    static int[] outside(int end) {
        return new int[] {-1, -2, LEAST, LEAST + 1, end, end + 1, 2 * end, MOST, MOST - 1,
            32 + end - 1, 256, 65536, 1 << 30};
    }
}
