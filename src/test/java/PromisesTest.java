/** Each promise by hand: ordinary inputs, the edges that the document names, and wrong inputs. */
public final class PromisesTest {
    private static final int LEAST = Tables.LEAST;
    private static final int MOST = Tables.MOST;
    private static final Check CHECK = new Check();

    public static void main(String[] args) {
        newObject();
        sizes();
        cross();
        crossRefused();
        row();
        rowRefused();
        rowOf();
        extent();
        intent();
        closure();
        closedSets();
        closedSet();
        nextClosed();
        follows();
        rules();
        rule();
        covers();
        links();
        height();
        generatorSize();
        dispensable();
        CHECK.end();
    }

    private static void due(String call, int got, int want) {
        CHECK.due(call, got, want);
    }

    private static ConceptLattice table(int attributes, int... rows) {
        return Tables.table(attributes, rows);
    }

    private static ConceptLattice kite() {
        return Tables.kite();
    }

    private static ConceptLattice pentagon() {
        return Tables.pentagon();
    }

    // Promise 1
    private static void newObject() {
        int[] wanted = {LEAST, -1, 0, 1, 2, 7, 8, 9, 100, MOST};
        int[] objects = {1, 1, 1, 1, 2, 7, 8, 8, 8, 8};
        int[] attributes = {2, 2, 2, 2, 2, 7, 7, 7, 7, 7};
        for (int i = 0; i < wanted.length; i++) {
            for (int j = 0; j < wanted.length; j++) {
                String made = "ConceptLattice(" + wanted[i] + ", " + wanted[j] + ").";
                ConceptLattice x = new ConceptLattice(wanted[i], wanted[j]);
                due(made + "objects()", x.objects(), objects[i]);
                due(made + "attributes()", x.attributes(), attributes[j]);
                due(made + "rowOf(last)", x.rowOf(objects[i] - 1), 0);
                due(made + "rowOf(n)", x.rowOf(objects[i]), -1);
                due(made + "extent(0)", x.extent(0), (1 << objects[i]) - 1);
                due(made + "extent(all)", x.extent((1 << attributes[j]) - 1), 0);
                due(made + "extent(2^m)", x.extent(1 << attributes[j]), -1);
                due(made + "intent(0)", x.intent(0), (1 << attributes[j]) - 1);
                due(made + "intent(all)", x.intent((1 << objects[i]) - 1), 0);
                due(made + "closedSets()", x.closedSets(), 2);
            }
        }
        ConceptLattice x = new ConceptLattice(8, 7);
        for (int object = 0; object < 8; object++) {
            due("new: rowOf", x.rowOf(object), 0);
        }
    }

    // Promises 2 and 3
    private static void sizes() {
        for (int n = 1; n <= 8; n++) {
            for (int m = 2; m <= 7; m++) {
                ConceptLattice x = new ConceptLattice(n, m);
                due("objects()", x.objects(), n);
                due("attributes()", x.attributes(), m);
                x.row(0, 3);
                due("objects() after row", x.objects(), n);
                due("attributes() after row", x.attributes(), m);
            }
        }
    }

    // Promise 4
    private static void cross() {
        ConceptLattice x = new ConceptLattice(3, 4);
        due("cross(1, 2, 1)", x.cross(1, 2, 1), 0);
        due("rowOf(1)", x.rowOf(1), 4);
        due("rowOf(0)", x.rowOf(0), 0);
        due("rowOf(2)", x.rowOf(2), 0);
        due("cross(1, 2, 1) again", x.cross(1, 2, 1), 1);
        due("rowOf(1) again", x.rowOf(1), 4);
        due("cross(1, 0, -1)", x.cross(1, 0, -1), 0);
        due("cross(1, 3, LEAST)", x.cross(1, 3, LEAST), 0);
        due("cross(1, 1, 2)", x.cross(1, 1, 2), 0);
        due("rowOf(1) full", x.rowOf(1), 15);
        due("cross(1, 2, 0)", x.cross(1, 2, 0), 1);
        due("rowOf(1) less", x.rowOf(1), 11);
        due("cross(1, 2, 0) again", x.cross(1, 2, 0), 0);
        due("rowOf(1) the same", x.rowOf(1), 11);
        due("cross(2, 3, MOST)", x.cross(2, 3, MOST), 0);
        due("rowOf(2) last", x.rowOf(2), 8);
    }

    private static void crossRefused() {
        int[] badObjects = {-1, 3, 8, 32, LEAST, MOST};
        int[] badAttributes = {-1, 4, 7, 32, LEAST, MOST};
        ConceptLattice x = table(4, 5, 10, 0);
        for (int object : badObjects) {
            due("cross(" + object + ", 0, 1)", x.cross(object, 0, 1), -1);
            for (int attribute : badAttributes) {
                due("cross, both bad", x.cross(object, attribute, 1), -1);
            }
        }
        for (int attribute : badAttributes) {
            due("cross(0, " + attribute + ", 1)", x.cross(0, attribute, 1), -2);
            due("cross(0, " + attribute + ", 0)", x.cross(0, attribute, 0), -2);
        }
        due("rowOf(0) after refused", x.rowOf(0), 5);
        due("rowOf(1) after refused", x.rowOf(1), 10);
        due("rowOf(2) after refused", x.rowOf(2), 0);
    }

    // Promise 5
    private static void row() {
        ConceptLattice x = new ConceptLattice(2, 3);
        due("row(0, 5)", x.row(0, 5), 0);
        due("row(0, 2)", x.row(0, 2), 5);
        due("row(0, 7)", x.row(0, 7), 2);
        due("row(1, 0)", x.row(1, 0), 0);
        due("row(0, 0)", x.row(0, 0), 7);
        due("row(0, 1)", x.row(0, 1), 0);
        due("cross(0, 1, 1)", x.cross(0, 1, 1), 0);
        due("row(0, 4)", x.row(0, 4), 3);
        due("rowOf(0)", x.rowOf(0), 4);
        due("rowOf(1)", x.rowOf(1), 0);
    }

    private static void rowRefused() {
        int[] badObjects = {-1, 2, 8, LEAST, MOST};
        int[] badSets = {-1, 8, 127, 128, LEAST, MOST};
        ConceptLattice x = table(3, 6, 1);
        for (int object : badObjects) {
            due("row(" + object + ", 0)", x.row(object, 0), -1);
            for (int set : badSets) {
                due("row, both bad", x.row(object, set), -1);
            }
        }
        for (int set : badSets) {
            due("row(0, " + set + ")", x.row(0, set), -2);
        }
        due("rowOf(0) after refused", x.rowOf(0), 6);
        due("rowOf(1) after refused", x.rowOf(1), 1);
    }

    // Promise 6
    private static void rowOf() {
        ConceptLattice x = table(7, 1, 2, 4, 8, 16, 32, 64, 127);
        for (int object = 0; object < 7; object++) {
            due("rowOf(" + object + ")", x.rowOf(object), 1 << object);
        }
        due("rowOf(7)", x.rowOf(7), 127);
        for (int bad : new int[] {-1, 8, LEAST, MOST}) {
            due("rowOf(" + bad + ")", x.rowOf(bad), -1);
        }
        due("rowOf(1) of one", table(2, 3).rowOf(1), -1);
    }

    // Promise 7
    private static void extent() {
        ConceptLattice x = kite();
        int[] want = {7, 5, 7, 5, 6, 4, 6, 4, 0, 0, 0, 0, 0, 0, 0, 0};
        for (int set = 0; set < want.length; set++) {
            due("extent(" + set + ")", x.extent(set), want[set]);
        }
        for (int bad : new int[] {-1, 16, LEAST, MOST}) {
            due("extent(" + bad + ")", x.extent(bad), -1);
        }
    }

    // Promise 8
    private static void intent() {
        ConceptLattice x = kite();
        int[] want = {15, 3, 6, 2, 7, 3, 6, 2};
        for (int set = 0; set < want.length; set++) {
            due("intent(" + set + ")", x.intent(set), want[set]);
        }
        for (int bad : new int[] {-1, 8, 15, LEAST, MOST}) {
            due("intent(" + bad + ")", x.intent(bad), -1);
        }
        ConceptLattice wide = new ConceptLattice(8, 2);
        due("row(7, 2)", wide.row(7, 2), 0);
        due("intent(128)", wide.intent(128), 2);
        due("intent(255)", wide.intent(255), 0);
        due("intent(256)", wide.intent(256), -1);
    }

    // Promise 9
    private static void closure() {
        ConceptLattice x = kite();
        int[] want = {2, 3, 2, 3, 6, 7, 6, 7, 15, 15, 15, 15, 15, 15, 15, 15};
        for (int set = 0; set < want.length; set++) {
            due("closure(" + set + ")", x.closure(set), want[set]);
        }
        for (int bad : new int[] {-1, 16, LEAST, MOST}) {
            due("closure(" + bad + ")", x.closure(bad), -1);
        }
        due("cross(1, 1, 0)", x.cross(1, 1, 0), 1);
        due("closure(0) after cross", x.closure(0), 0);
        due("closure(4) after cross", x.closure(4), 4);
    }

    // Promise 10
    private static void closedSets() {
        ConceptLattice x = kite();
        due("closedSets()", x.closedSets(), 5);
        due("row(2, 15)", x.row(2, 15), 7);
        due("closedSets() after row", x.closedSets(), 4);
        due("closedSets() of full rows", table(3, 7, 7).closedSets(), 1);
        due("closedSets() of all parts", table(3, 6, 5, 3).closedSets(), 8);
    }

    // Promise 11
    private static void closedSet() {
        ConceptLattice x = kite();
        int[] want = {2, 3, 6, 7, 15};
        for (int i = 0; i < want.length; i++) {
            due("closedSet(" + i + ")", x.closedSet(i), want[i]);
        }
        for (int bad : new int[] {-1, 5, 16, LEAST, MOST}) {
            due("closedSet(" + bad + ")", x.closedSet(bad), -1);
        }
        due("closedSet(0) of pentagon", pentagon().closedSet(0), 0);
        due("closedSet(4) of pentagon", pentagon().closedSet(4), 7);
    }

    // Promise 12
    private static void nextClosed() {
        ConceptLattice x = kite();
        int[] want = {2, 2, 3, 6, 6, 6, 7, 15, 15, 15, 15, 15, 15, 15, 15, -1, -1};
        for (int after = 0; after < want.length; after++) {
            due("nextClosed(" + after + ")", x.nextClosed(after), want[after]);
        }
        due("nextClosed(-1)", x.nextClosed(-1), 2);
        due("nextClosed(LEAST)", x.nextClosed(LEAST), 2);
        due("nextClosed(MOST)", x.nextClosed(MOST), -1);
        due("nextClosed(MOST - 1)", x.nextClosed(MOST - 1), -1);
        due("nextClosed(-1) of an empty table", new ConceptLattice(2, 2).nextClosed(-1), 0);
    }

    // Promise 13
    private static void follows() {
        ConceptLattice x = kite();
        due("follows(0, 0)", x.follows(0, 0), 1);
        due("follows(0, 2)", x.follows(0, 2), 1);
        due("follows(0, 1)", x.follows(0, 1), 0);
        due("follows(1, 2)", x.follows(1, 2), 1);
        due("follows(2, 1)", x.follows(2, 1), 0);
        due("follows(5, 7)", x.follows(5, 7), 1);
        due("follows(5, 8)", x.follows(5, 8), 0);
        due("follows(3, 5)", x.follows(3, 5), 0);
        due("follows(8, 15): no object has it", x.follows(8, 15), 1);
        for (int bad : new int[] {-1, 16, LEAST, MOST}) {
            due("follows(" + bad + ", 0)", x.follows(bad, 0), -1);
            due("follows(0, " + bad + ")", x.follows(0, bad), -1);
            due("follows(" + bad + ", " + bad + ")", x.follows(bad, bad), -1);
        }
    }

    // Promise 14
    private static void rules() {
        due("rules() of kite", kite().rules(), 2);
        due("rules() of pentagon", pentagon().rules(), 2);
        due("rules() of all parts", table(3, 6, 5, 3).rules(), 0);
        due("rules() of an empty table", new ConceptLattice(1, 7).rules(), 7);
        ConceptLattice x = table(2, 3);
        due("rules() of a full row", x.rules(), 1);
        due("row(0, 1)", x.row(0, 1), 3);
        due("rules() after row", x.rules(), 1);
        due("row(0, 0)", x.row(0, 0), 1);
        due("rules() of an empty row", x.rules(), 2);
    }

    // Promise 15
    private static void rule() {
        // {} gives {1}; with it {1,3} gives all; {3} alone lacks {1} and is no rule.
        ConceptLattice x = kite();
        due("rule(0)", x.rule(0), 0);
        due("rule(1)", x.rule(1), 10);
        due("rule(2)", x.rule(2), -1);
        for (int bad : new int[] {-1, 3, 128, LEAST, MOST}) {
            due("rule(" + bad + ")", x.rule(bad), -1);
        }
        ConceptLattice y = pentagon();
        due("pentagon: rule(0)", y.rule(0), 2);
        due("pentagon: rule(1)", y.rule(1), 5);
        due("pentagon: rule(2)", y.rule(2), -1);
        due("row(2, 7)", y.row(2, 7), 4);
        due("pentagon changed: rule(0)", y.rule(0), 0);
    }

    // Promise 16
    private static void covers() {
        ConceptLattice x = kite();
        int[] want = {2, 1, 2, 1, 1, 1, 1, 1, 0, 0, 0, 0, 0, 0, 0, 0};
        for (int set = 0; set < want.length; set++) {
            due("covers(" + set + ")", x.covers(set), want[set]);
        }
        for (int bad : new int[] {-1, 16, LEAST, MOST}) {
            due("covers(" + bad + ")", x.covers(bad), -1);
        }
        ConceptLattice y = pentagon();
        due("pentagon: covers(0)", y.covers(0), 2);
        due("pentagon: covers(1)", y.covers(1), 1);
        due("pentagon: covers(2)", y.covers(2), 1);
        due("pentagon: covers(4)", y.covers(4), 1);
        due("pentagon: covers(7)", y.covers(7), 0);
    }

    // Promise 17
    private static void links() {
        due("links() of kite", kite().links(), 5);
        due("links() of pentagon", pentagon().links(), 5);
        due("links() of all parts", table(3, 6, 5, 3).links(), 12);
        due("links() of full rows", table(3, 7, 7).links(), 0);
        due("links() of an empty table", new ConceptLattice(8, 7).links(), 1);
    }

    // Promise 18
    private static void height() {
        due("height() of kite", kite().height(), 4);
        ConceptLattice x = pentagon();
        due("height() of pentagon", x.height(), 4);
        due("row(0, 1)", x.row(0, 1), 3);
        due("height() of a lower one", x.height(), 3);
        due("height() of full rows", table(3, 7, 7).height(), 1);
        due("height() of an empty table", new ConceptLattice(8, 7).height(), 2);
        due("height() of a chain", table(7, 0, 1, 3, 7, 15, 31, 63, 127).height(), 8);
    }

    // Promise 19
    private static void generatorSize() {
        ConceptLattice x = kite();
        int[] want = {0, 1, 0, 1, 1, 2, 1, 2, 1, 1, 1, 1, 1, 1, 1, 1};
        for (int set = 0; set < want.length; set++) {
            due("generatorSize(" + set + ")", x.generatorSize(set), want[set]);
        }
        for (int bad : new int[] {-1, 16, LEAST, MOST}) {
            due("generatorSize(" + bad + ")", x.generatorSize(bad), -1);
        }
        // {0,1} has the closure of {2}, which is no part of it.
        ConceptLattice y = table(3, 1, 2, 7);
        due("generatorSize(3) from outside", y.generatorSize(3), 1);
        due("generatorSize(7) of all parts", table(3, 6, 5, 3).generatorSize(7), 3);
    }

    // Promise 20
    private static void dispensable() {
        // {1}, {0,1} differ in 0; {1}, {1,2} in 2; {0,1,2}, all in 3; none in 1.
        ConceptLattice x = kite();
        due("dispensable(0)", x.dispensable(0), 0);
        due("dispensable(1)", x.dispensable(1), 1);
        due("dispensable(2)", x.dispensable(2), 0);
        due("dispensable(3)", x.dispensable(3), 0);
        for (int bad : new int[] {-1, 4, 7, 32, LEAST, MOST}) {
            due("dispensable(" + bad + ")", x.dispensable(bad), -1);
        }
        ConceptLattice y = new ConceptLattice(1, 2);
        due("dispensable(0) of an empty table", y.dispensable(0), 1);
        due("row(0, 1)", y.row(0, 1), 0);
        due("dispensable(0) of one cross", y.dispensable(0), 1);
        due("dispensable(1) of one cross", y.dispensable(1), 0);
        due("dispensable(2) of pentagon: 0 and 4", pentagon().dispensable(2), 0);
        due("dispensable(6) of a chain", table(7, 0, 1, 3, 7, 15, 31, 63).dispensable(6), 0);
    }
}
