/** The promises again: each sentence that names a boundary case has a test of its own here. */
public final class EdgesTest {
    private static final int LEAST = Tables.LEAST;
    private static final int MOST = Tables.MOST;
    private static final Check CHECK = new Check();

    public static void main(String[] args) {
        objectsBelowOne();
        objectsAboveEight();
        attributesBelowTwo();
        attributesAboveSeven();
        sizesWithin();

        crossObjectNotGood();
        crossAttributeNotGood();
        crossObjectBeforeAttribute();
        crossFlagNotZero();
        crossFlagZero();
        crossHadBefore();

        rowObjectNotGood();
        rowSetNotGood();
        rowObjectBeforeSet();
        rowJustTheSet();
        rowHadBefore();

        rowOfNotGood();
        extentNotGood();
        extentOfEmptyAndFull();
        extentOfOneObject();
        intentNotInRange();
        intentOfEmptyAndFull();
        closureNotGood();
        closureOfEmptyAndFull();

        closedSetsOfEmptyAndFull();
        closedSetNoSuchOne();
        closedSetNoSuchOneAfterChange();
        nextClosedAnyInt();
        nextClosedNone();
        followsNotGood();
        followsOfEmptyAndFull();

        rulesOfEmptyAndFull();
        ruleNoSuchOne();
        ruleNoSuchOneAfterChange();
        coversNotGood();
        coversOfEmptyAndFull();
        coversOfTheClosure();
        linksOfEmptyAndFull();
        heightOfEmptyAndFull();

        generatorSizeNotGood();
        generatorSizeOfEmptyAndFull();
        generatorSizeOfAnySet();
        dispensableNotGood();
        dispensableOfEmptyAndFull();
        dispensableByTheLowestPair();
        dispensableByTheHighestPair();
        CHECK.end();
    }

    private static void due(String call, int got, int want) {
        CHECK.due(call, got, want);
    }

    private static String of(int n, int m) {
        return " of " + n + " objects, " + m + " attributes";
    }

    // Promise 1

    private static void objectsBelowOne() {
        CHECK.about("1: objects below 1 becomes 1");
        for (int objects : new int[] {0, -1, -2, -8, -255, LEAST, LEAST + 1, LEAST + 8}) {
            ConceptLattice x = new ConceptLattice(objects, 3);
            due("objects() of " + objects, x.objects(), 1);
            due("attributes() of " + objects, x.attributes(), 3);
            due("row(0, 7) of " + objects, x.row(0, 7), 0);
            due("row(1, 7) of " + objects, x.row(1, 7), -1);
            due("intent(1) of " + objects, x.intent(1), 7);
            due("intent(2) of " + objects, x.intent(2), -1);
            due("closedSets() of " + objects, x.closedSets(), 1);
        }
    }

    private static void objectsAboveEight() {
        CHECK.about("1: objects above 8 becomes 8");
        for (int objects : new int[] {9, 10, 16, 32, 33, 256, 257, 65537, MOST - 1, MOST}) {
            ConceptLattice x = new ConceptLattice(objects, 3);
            due("objects() of " + objects, x.objects(), 8);
            due("attributes() of " + objects, x.attributes(), 3);
            due("row(7, 7) of " + objects, x.row(7, 7), 0);
            due("row(8, 7) of " + objects, x.row(8, 7), -1);
            due("intent(128) of " + objects, x.intent(128), 7);
            due("intent(255) of " + objects, x.intent(255), 0);
            due("intent(256) of " + objects, x.intent(256), -1);
            due("extent(0) of " + objects, x.extent(0), 255);
        }
    }

    private static void attributesBelowTwo() {
        CHECK.about("1: attributes below 2 becomes 2");
        for (int attributes : new int[] {1, 0, -1, -2, -7, -254, LEAST, LEAST + 1, LEAST + 7}) {
            ConceptLattice x = new ConceptLattice(3, attributes);
            due("objects() of " + attributes, x.objects(), 3);
            due("attributes() of " + attributes, x.attributes(), 2);
            due("cross(0, 1, 1) of " + attributes, x.cross(0, 1, 1), 0);
            due("cross(0, 2, 1) of " + attributes, x.cross(0, 2, 1), -2);
            due("row(1, 3) of " + attributes, x.row(1, 3), 0);
            due("row(1, 4) of " + attributes, x.row(1, 4), -2);
            due("intent(0) of " + attributes, x.intent(0), 3);
        }
    }

    private static void attributesAboveSeven() {
        CHECK.about("1: attributes above 7 becomes 7");
        for (int attributes : new int[] {8, 9, 16, 32, 34, 256, 258, 65538, MOST - 1, MOST}) {
            ConceptLattice x = new ConceptLattice(3, attributes);
            due("objects() of " + attributes, x.objects(), 3);
            due("attributes() of " + attributes, x.attributes(), 7);
            due("cross(0, 6, 1) of " + attributes, x.cross(0, 6, 1), 0);
            due("cross(0, 7, 1) of " + attributes, x.cross(0, 7, 1), -2);
            due("row(1, 127) of " + attributes, x.row(1, 127), 0);
            due("row(1, 128) of " + attributes, x.row(1, 128), -2);
            due("intent(0) of " + attributes, x.intent(0), 127);
        }
    }

    private static void sizesWithin() {
        CHECK.about("1 to 3: sizes within the bounds stay, each for itself");
        for (int n = 1; n <= 8; n++) {
            for (int m = 2; m <= 7; m++) {
                ConceptLattice x = new ConceptLattice(n, m);
                due("objects()" + of(n, m), x.objects(), n);
                due("attributes()" + of(n, m), x.attributes(), m);
            }
        }
        due("objects() of (LEAST, MOST)", new ConceptLattice(LEAST, MOST).objects(), 1);
        due("attributes() of (LEAST, MOST)", new ConceptLattice(LEAST, MOST).attributes(), 7);
        due("objects() of (MOST, LEAST)", new ConceptLattice(MOST, LEAST).objects(), 8);
        due("attributes() of (MOST, LEAST)", new ConceptLattice(MOST, LEAST).attributes(), 2);
    }

    // Promise 4

    private static void crossObjectNotGood() {
        CHECK.about("4: cross answers -1 if object is not good");
        for (int n = 1; n <= 8; n++) {
            ConceptLattice x = new ConceptLattice(n, 3);
            for (int object : Tables.outside(n)) {
                due("cross(" + object + ", 2, 1)" + of(n, 3), x.cross(object, 2, 1), -1);
                due("cross(" + object + ", 0, 0)" + of(n, 3), x.cross(object, 0, 0), -1);
            }
            due("cross(0, 2, 1)" + of(n, 3), x.cross(0, 2, 1), 0);
            due("cross(n - 1, 1, 1)" + of(n, 3), x.cross(n - 1, 1, 1), 0);
        }
    }

    private static void crossAttributeNotGood() {
        CHECK.about("4: cross answers -2 if attribute is not good");
        for (int m = 2; m <= 7; m++) {
            ConceptLattice x = new ConceptLattice(3, m);
            for (int attribute : Tables.outside(m)) {
                due("cross(2, " + attribute + ", 1)" + of(3, m), x.cross(2, attribute, 1), -2);
                due("cross(0, " + attribute + ", 0)" + of(3, m), x.cross(0, attribute, 0), -2);
            }
            due("cross(2, 0, 1)" + of(3, m), x.cross(2, 0, 1), 0);
            due("cross(2, m - 1, 1)" + of(3, m), x.cross(2, m - 1, 1), 0);
        }
    }

    private static void crossObjectBeforeAttribute() {
        CHECK.about("4: cross answers -1 before -2");
        ConceptLattice x = new ConceptLattice(2, 3);
        for (int object : Tables.outside(2)) {
            for (int attribute : Tables.outside(3)) {
                due("cross(" + object + ", " + attribute + ", 1)", x.cross(object, attribute, 1), -1);
            }
        }
        // 2 is a good attribute but no good object, and with the sizes changed it is the other way.
        due("cross(2, 2, 1)" + of(2, 3), x.cross(2, 2, 1), -1);
        due("cross(2, 2, 1)" + of(3, 2), new ConceptLattice(3, 2).cross(2, 2, 1), -2);
    }

    private static void crossFlagNotZero() {
        CHECK.about("4: the object has the attribute (flag not 0)");
        for (int flag : new int[] {1, 2, 3, -1, -2, 256, 65536, 1 << 30, LEAST, LEAST + 1, MOST}) {
            ConceptLattice x = new ConceptLattice(8, 7);
            due("cross(7, 6, " + flag + ")", x.cross(7, 6, flag), 0);
            due("rowOf(7) after " + flag, x.rowOf(7), 64);
            due("cross(7, 6, " + flag + ") again", x.cross(7, 6, flag), 1);
            due("rowOf(7) after " + flag + " again", x.rowOf(7), 64);
            due("cross(7, 0, " + flag + ")", x.cross(7, 0, flag), 0);
            due("rowOf(7) with both", x.rowOf(7), 65);
            due("rowOf(6)", x.rowOf(6), 0);
            due("rowOf(0)", x.rowOf(0), 0);
        }
    }

    private static void crossFlagZero() {
        CHECK.about("4: or has it not (flag 0)");
        ConceptLattice x = Tables.full(8, 7);
        due("cross(0, 0, 0)", x.cross(0, 0, 0), 1);
        due("rowOf(0)", x.rowOf(0), 126);
        due("cross(0, 0, 0) again", x.cross(0, 0, 0), 0);
        due("rowOf(0) again", x.rowOf(0), 126);
        due("cross(7, 6, 0)", x.cross(7, 6, 0), 1);
        due("rowOf(7)", x.rowOf(7), 63);
        due("rowOf(6)", x.rowOf(6), 127);
        for (int attribute = 1; attribute < 7; attribute++) {
            due("cross(0, " + attribute + ", 0)", x.cross(0, attribute, 0), 1);
        }
        due("rowOf(0) empty", x.rowOf(0), 0);
        due("cross(0, 3, 0) of an empty row", x.cross(0, 3, 0), 0);
    }

    private static void crossHadBefore() {
        CHECK.about("4: 1 if it had it before, else 0");
        ConceptLattice x = new ConceptLattice(1, 2);
        due("cross(0, 1, 0) of a new object", x.cross(0, 1, 0), 0);
        due("cross(0, 1, 1)", x.cross(0, 1, 1), 0);
        due("cross(0, 0, 1) beside it", x.cross(0, 0, 1), 0);
        due("cross(0, 1, 5)", x.cross(0, 1, 5), 1);
        due("cross(0, 1, 0)", x.cross(0, 1, 0), 1);
        due("cross(0, 1, -5)", x.cross(0, 1, -5), 0);
        due("row(0, 1)", x.row(0, 1), 3);
        due("cross(0, 1, 1) after row took it", x.cross(0, 1, 1), 0);
        due("cross(0, 0, 1) after row left it", x.cross(0, 0, 1), 1);
    }

    // Promise 5

    private static void rowObjectNotGood() {
        CHECK.about("5: row answers -1 if object is not good");
        for (int n = 1; n <= 8; n++) {
            ConceptLattice x = new ConceptLattice(n, 3);
            for (int object : Tables.outside(n)) {
                due("row(" + object + ", 7)" + of(n, 3), x.row(object, 7), -1);
                due("row(" + object + ", 0)" + of(n, 3), x.row(object, 0), -1);
            }
            due("row(n - 1, 7)" + of(n, 3), x.row(n - 1, 7), 0);
            due("row(n - 1, 0)" + of(n, 3), x.row(n - 1, 0), 7);
        }
    }

    private static void rowSetNotGood() {
        CHECK.about("5: row answers -2 if set is not good");
        for (int m = 2; m <= 7; m++) {
            ConceptLattice x = new ConceptLattice(3, m);
            for (int set : Tables.outside(1 << m)) {
                due("row(2, " + set + ")" + of(3, m), x.row(2, set), -2);
            }
            due("row(2, 2^m - 1)" + of(3, m), x.row(2, (1 << m) - 1), 0);
            due("row(2, 0)" + of(3, m), x.row(2, 0), (1 << m) - 1);
        }
    }

    private static void rowObjectBeforeSet() {
        CHECK.about("5: row answers -1 before -2");
        ConceptLattice x = new ConceptLattice(2, 2);
        for (int object : Tables.outside(2)) {
            for (int set : Tables.outside(4)) {
                due("row(" + object + ", " + set + ")", x.row(object, set), -1);
            }
        }
    }

    private static void rowJustTheSet() {
        CHECK.about("5: the object gets just the attributes of a set");
        for (int m = 2; m <= 7; m++) {
            int all = (1 << m) - 1;
            ConceptLattice x = new ConceptLattice(2, m);
            for (int set = 0; set <= all; set++) {
                x.row(1, all - set);
                x.row(1, set);
                due("rowOf(1) after row(1, " + set + ")" + of(2, m), x.rowOf(1), set);
            }
            due("rowOf(0)" + of(2, m), x.rowOf(0), 0);
        }
    }

    private static void rowHadBefore() {
        CHECK.about("5: row answers the set of the attributes that it had before");
        ConceptLattice x = new ConceptLattice(8, 7);
        due("row(7, 0) of a new object", x.row(7, 0), 0);
        due("row(7, 127)", x.row(7, 127), 0);
        due("row(7, 127) again", x.row(7, 127), 127);
        due("row(0, 64) of another", x.row(0, 64), 0);
        due("row(7, 0)", x.row(7, 0), 127);
        due("cross(7, 6, 1)", x.cross(7, 6, 1), 0);
        due("row(7, 1) after cross", x.row(7, 1), 64);
        due("row(7, 128) refused", x.row(7, 128), -2);
        due("row(7, 2) after a refused one", x.row(7, 2), 1);
    }

    // Promises 6 to 9

    private static void rowOfNotGood() {
        CHECK.about("6: rowOf answers -1 if object is not good");
        for (int n = 1; n <= 8; n++) {
            ConceptLattice x = Tables.full(n, 2);
            for (int object : Tables.outside(n)) {
                due("rowOf(" + object + ")" + of(n, 2), x.rowOf(object), -1);
            }
            due("rowOf(0)" + of(n, 2), x.rowOf(0), 3);
            due("rowOf(n - 1)" + of(n, 2), x.rowOf(n - 1), 3);
        }
    }

    private static void extentNotGood() {
        CHECK.about("7: extent answers -1 if set is not good");
        for (int m = 2; m <= 7; m++) {
            ConceptLattice x = new ConceptLattice(8, m);
            for (int set : Tables.outside(1 << m)) {
                due("extent(" + set + ")" + of(8, m), x.extent(set), -1);
            }
            due("extent(2^m - 1)" + of(8, m), x.extent((1 << m) - 1), 0);
        }
    }

    private static void extentOfEmptyAndFull() {
        CHECK.about("7: extent on empty and full tables");
        for (int n = 1; n <= 8; n++) {
            for (int m = 2; m <= 7; m++) {
                int everyone = (1 << n) - 1;
                ConceptLattice empty = new ConceptLattice(n, m);
                ConceptLattice full = Tables.full(n, m);
                for (int set = 0; set < 1 << m; set++) {
                    due("empty: extent(" + set + ")" + of(n, m), empty.extent(set), set == 0 ? everyone : 0);
                    due("full: extent(" + set + ")" + of(n, m), full.extent(set), everyone);
                }
            }
        }
    }

    private static void extentOfOneObject() {
        CHECK.about("7: extent of one object alone, the first to the last");
        for (int object = 0; object < 8; object++) {
            ConceptLattice x = new ConceptLattice(8, 7);
            x.row(object, 127);
            due("extent(0)", x.extent(0), 255);
            due("extent(64) of object " + object, x.extent(64), 1 << object);
            due("extent(127) of object " + object, x.extent(127), 1 << object);
        }
    }

    private static void intentNotInRange() {
        CHECK.about("8: intent answers -1 if set is not in 0 .. 2^n - 1");
        // The bound is that of the objects, whether there are fewer or more attributes.
        for (int n = 1; n <= 8; n++) {
            for (int m = 2; m <= 7; m++) {
                ConceptLattice x = Tables.full(n, m);
                for (int some : Tables.outside(1 << n)) {
                    due("intent(" + some + ")" + of(n, m), x.intent(some), -1);
                }
                due("intent(0)" + of(n, m), x.intent(0), (1 << m) - 1);
                due("intent(2^n - 1)" + of(n, m), x.intent((1 << n) - 1), (1 << m) - 1);
            }
        }
    }

    private static void intentOfEmptyAndFull() {
        CHECK.about("8: intent on empty and full tables");
        for (int n = 1; n <= 8; n++) {
            ConceptLattice empty = new ConceptLattice(n, 7);
            ConceptLattice full = Tables.full(n, 7);
            for (int some = 0; some < 1 << n; some++) {
                due("empty: intent(" + some + ")" + of(n, 7), empty.intent(some), some == 0 ? 127 : 0);
                due("full: intent(" + some + ")" + of(n, 7), full.intent(some), 127);
            }
        }
    }

    private static void closureNotGood() {
        CHECK.about("9: closure answers -1 if set is not good");
        for (int m = 2; m <= 7; m++) {
            ConceptLattice x = new ConceptLattice(8, m);
            for (int set : Tables.outside(1 << m)) {
                due("closure(" + set + ")" + of(8, m), x.closure(set), -1);
            }
            due("closure(0)" + of(8, m), x.closure(0), 0);
            due("closure(2^m - 1)" + of(8, m), x.closure((1 << m) - 1), (1 << m) - 1);
        }
    }

    private static void closureOfEmptyAndFull() {
        CHECK.about("9: closure on empty and full tables");
        for (int n = 1; n <= 8; n++) {
            for (int m = 2; m <= 7; m++) {
                int all = (1 << m) - 1;
                ConceptLattice empty = new ConceptLattice(n, m);
                ConceptLattice full = Tables.full(n, m);
                for (int set = 0; set <= all; set++) {
                    due("empty: closure(" + set + ")" + of(n, m), empty.closure(set), set == 0 ? 0 : all);
                    due("full: closure(" + set + ")" + of(n, m), full.closure(set), all);
                }
            }
        }
    }

    // Promises 10 to 13

    private static void closedSetsOfEmptyAndFull() {
        CHECK.about("10: closedSets on empty and full tables");
        for (int n = 1; n <= 8; n++) {
            for (int m = 2; m <= 7; m++) {
                due("empty: closedSets()" + of(n, m), new ConceptLattice(n, m).closedSets(), 2);
                due("full: closedSets()" + of(n, m), Tables.full(n, m).closedSets(), 1);
            }
        }
        for (int m = 2; m <= 7; m++) {
            due("every set closed: closedSets()" + of(m, m), Tables.allParts(m).closedSets(), 1 << m);
        }
    }

    private static void closedSetNoSuchOne() {
        CHECK.about("11: closedSet answers -1 if there is no such one");
        for (int m = 2; m <= 7; m++) {
            int all = (1 << m) - 1;
            noClosedSet("empty: ", new ConceptLattice(8, m), 2);
            due("empty: closedSet(0)" + of(8, m), new ConceptLattice(8, m).closedSet(0), 0);
            due("empty: closedSet(1)" + of(8, m), new ConceptLattice(8, m).closedSet(1), all);
            noClosedSet("full: ", Tables.full(8, m), 1);
            due("full: closedSet(0)" + of(8, m), Tables.full(8, m).closedSet(0), all);
            noClosedSet("every set closed: ", Tables.allParts(m), 1 << m);
            for (int i = 0; i <= all; i++) {
                due("every set closed: closedSet(" + i + ")" + of(m, m), Tables.allParts(m).closedSet(i), i);
            }
        }
    }

    private static void noClosedSet(String name, ConceptLattice x, int count) {
        for (int i : Tables.outside(count)) {
            due(name + "closedSet(" + i + ") of " + count, x.closedSet(i), -1);
        }
    }

    private static void closedSetNoSuchOneAfterChange() {
        CHECK.about("11: closedSet after the table has changed");
        ConceptLattice x = Tables.allParts(3);
        due("closedSet(7)", x.closedSet(7), 7);
        due("row(0, 7)", x.row(0, 7), 6);
        due("closedSet(3) of 4", x.closedSet(3), 7);
        due("closedSet(4) of 4", x.closedSet(4), -1);
        due("row(0, 6)", x.row(0, 6), 7);
        due("closedSet(4) of 8", x.closedSet(4), 4);
    }

    private static void nextClosedAnyInt() {
        CHECK.about("12: nextClosed takes any int");
        for (int m = 2; m <= 7; m++) {
            int all = (1 << m) - 1;
            ConceptLattice empty = new ConceptLattice(8, m);
            ConceptLattice full = Tables.full(8, m);
            for (int after : new int[] {LEAST, LEAST + 1, -65537, -256, -129, -128, -32, -2, -1}) {
                due("empty: nextClosed(" + after + ")" + of(8, m), empty.nextClosed(after), 0);
                due("full: nextClosed(" + after + ")" + of(8, m), full.nextClosed(after), all);
            }
            for (int after = 0; after < all; after++) {
                due("empty: nextClosed(" + after + ")" + of(8, m), empty.nextClosed(after), all);
                due("full: nextClosed(" + after + ")" + of(8, m), full.nextClosed(after), all);
            }
            ConceptLattice parts = Tables.allParts(m);
            for (int after = -1; after < all; after++) {
                due("every set closed: nextClosed(" + after + ")", parts.nextClosed(after), after + 1);
            }
        }
    }

    private static void nextClosedNone() {
        CHECK.about("12: nextClosed answers -1 if there is none");
        for (int m = 2; m <= 7; m++) {
            int all = (1 << m) - 1;
            ConceptLattice[] tables = {new ConceptLattice(8, m), Tables.full(1, m), Tables.allParts(m)};
            for (ConceptLattice x : tables) {
                for (int after : new int[] {all, all + 1, 128, 255, 256, 65536, 1 << 30, MOST - 1, MOST}) {
                    due("nextClosed(" + after + ") of " + m + " attributes", x.nextClosed(after), -1);
                }
            }
        }
    }

    private static void followsNotGood() {
        CHECK.about("13: follows answers -1 if p or q is not good");
        for (int m = 2; m <= 7; m++) {
            int all = (1 << m) - 1;
            // In the full table everything follows, in the empty one nothing from the empty set.
            ConceptLattice full = Tables.full(2, m);
            ConceptLattice empty = new ConceptLattice(2, m);
            for (int bad : Tables.outside(1 << m)) {
                due("full: follows(" + bad + ", 0)" + of(2, m), full.follows(bad, 0), -1);
                due("full: follows(0, " + bad + ")" + of(2, m), full.follows(0, bad), -1);
                due("full: follows(all, " + bad + ")" + of(2, m), full.follows(all, bad), -1);
                due("full: follows(" + bad + ", all)" + of(2, m), full.follows(bad, all), -1);
                due("full: follows, both " + bad + of(2, m), full.follows(bad, bad), -1);
                due("empty: follows(" + bad + ", all)" + of(2, m), empty.follows(bad, all), -1);
                due("empty: follows(0, " + bad + ")" + of(2, m), empty.follows(0, bad), -1);
            }
            due("full: follows(all, all)" + of(2, m), full.follows(all, all), 1);
        }
    }

    private static void followsOfEmptyAndFull() {
        CHECK.about("13: follows on empty and full tables");
        for (int p = 0; p < 8; p++) {
            for (int q = 0; q < 8; q++) {
                String call = "follows(" + p + ", " + q + ")";
                due("empty: " + call, new ConceptLattice(8, 3).follows(p, q), p == 0 && q != 0 ? 0 : 1);
                due("full: " + call, Tables.full(8, 3).follows(p, q), 1);
                due("every set closed: " + call, Tables.allParts(3).follows(p, q), (p | q) == p ? 1 : 0);
            }
        }
    }

    // Promises 14 to 18

    private static void rulesOfEmptyAndFull() {
        CHECK.about("14: rules on empty and full tables");
        for (int n = 1; n <= 8; n++) {
            for (int m = 2; m <= 7; m++) {
                // Empty: each attribute alone gives all. Full: the empty set gives all.
                due("empty: rules()" + of(n, m), new ConceptLattice(n, m).rules(), m);
                due("full: rules()" + of(n, m), Tables.full(n, m).rules(), 1);
            }
        }
        for (int m = 2; m <= 7; m++) {
            due("every set closed: rules()" + of(m, m), Tables.allParts(m).rules(), 0);
        }
    }

    private static void ruleNoSuchOne() {
        CHECK.about("15: rule answers -1 if there is no such one");
        for (int m = 2; m <= 7; m++) {
            ConceptLattice empty = new ConceptLattice(8, m);
            ConceptLattice full = Tables.full(8, m);
            ConceptLattice parts = Tables.allParts(m);
            for (int i = 0; i < m; i++) {
                due("empty: rule(" + i + ")" + of(8, m), empty.rule(i), 1 << i);
            }
            for (int i : Tables.outside(m)) {
                due("empty: rule(" + i + ")" + of(8, m), empty.rule(i), -1);
            }
            due("full: rule(0)" + of(8, m), full.rule(0), 0);
            for (int i : Tables.outside(1)) {
                due("full: rule(" + i + ")" + of(8, m), full.rule(i), -1);
            }
            due("every set closed: rule(0)" + of(m, m), parts.rule(0), -1);
            for (int i : Tables.outside(1)) {
                due("every set closed: rule(" + i + ")" + of(m, m), parts.rule(i), -1);
            }
        }
    }

    private static void ruleNoSuchOneAfterChange() {
        CHECK.about("15: rule after the table has changed");
        ConceptLattice x = new ConceptLattice(2, 3);
        due("rule(2) of an empty table", x.rule(2), 4);
        due("row(0, 7)", x.row(0, 7), 0);
        due("rule(2) with a full row beside", x.rule(2), 4);
        due("row(1, 7)", x.row(1, 7), 0);
        due("rule(0) of a full table", x.rule(0), 0);
        due("rule(1) of a full table", x.rule(1), -1);
        due("rule(2) of a full table", x.rule(2), -1);
        due("row(1, 0)", x.row(1, 0), 7);
        due("rule(0) with an empty row again", x.rule(0), 1);
    }

    private static void coversNotGood() {
        CHECK.about("16: covers answers -1 if set is not good");
        for (int m = 2; m <= 7; m++) {
            ConceptLattice x = new ConceptLattice(8, m);
            for (int set : Tables.outside(1 << m)) {
                due("covers(" + set + ")" + of(8, m), x.covers(set), -1);
            }
        }
    }

    private static void coversOfEmptyAndFull() {
        CHECK.about("16: covers on empty and full tables");
        for (int m = 2; m <= 7; m++) {
            ConceptLattice empty = new ConceptLattice(8, m);
            ConceptLattice full = Tables.full(8, m);
            ConceptLattice parts = Tables.allParts(m);
            for (int set = 0; set < 1 << m; set++) {
                due("empty: covers(" + set + ")" + of(8, m), empty.covers(set), set == 0 ? 1 : 0);
                due("full: covers(" + set + ")" + of(8, m), full.covers(set), 0);
                due("every set closed: covers(" + set + ")", parts.covers(set), m - Integer.bitCount(set));
            }
        }
    }

    private static void coversOfTheClosure() {
        CHECK.about("16: covers is about the closure of a set that is not closed itself");
        // Closed are 3, 7, 11 and 15; the closure of 1 is 3, which two of them cover.
        ConceptLattice x = Tables.table(4, 7, 11);
        due("covers(0)", x.covers(0), 2);
        due("covers(1)", x.covers(1), 2);
        due("covers(2)", x.covers(2), 2);
        due("covers(3)", x.covers(3), 2);
        due("covers(4)", x.covers(4), 1);
        due("covers(8)", x.covers(8), 1);
        due("covers(12)", x.covers(12), 0);
    }

    private static void linksOfEmptyAndFull() {
        CHECK.about("17: links on empty and full tables");
        for (int n = 1; n <= 8; n++) {
            for (int m = 2; m <= 7; m++) {
                due("empty: links()" + of(n, m), new ConceptLattice(n, m).links(), 1);
                due("full: links()" + of(n, m), Tables.full(n, m).links(), 0);
            }
        }
        for (int m = 2; m <= 7; m++) {
            due("every set closed: links()" + of(m, m), Tables.allParts(m).links(), m * (1 << m) / 2);
        }
    }

    private static void heightOfEmptyAndFull() {
        CHECK.about("18: height on empty and full tables");
        for (int n = 1; n <= 8; n++) {
            for (int m = 2; m <= 7; m++) {
                due("empty: height()" + of(n, m), new ConceptLattice(n, m).height(), 2);
                due("full: height()" + of(n, m), Tables.full(n, m).height(), 1);
            }
        }
        for (int m = 2; m <= 7; m++) {
            due("every set closed: height()" + of(m, m), Tables.allParts(m).height(), m + 1);
        }
    }

    // Promises 19 and 20

    private static void generatorSizeNotGood() {
        CHECK.about("19: generatorSize answers -1 if set is not good");
        for (int m = 2; m <= 7; m++) {
            ConceptLattice x = new ConceptLattice(8, m);
            for (int set : Tables.outside(1 << m)) {
                due("generatorSize(" + set + ")" + of(8, m), x.generatorSize(set), -1);
            }
        }
    }

    private static void generatorSizeOfEmptyAndFull() {
        CHECK.about("19: generatorSize on empty and full tables");
        for (int m = 2; m <= 7; m++) {
            ConceptLattice empty = new ConceptLattice(8, m);
            ConceptLattice full = Tables.full(8, m);
            ConceptLattice parts = Tables.allParts(m);
            for (int set = 0; set < 1 << m; set++) {
                String call = "generatorSize(" + set + ")";
                due("empty: " + call + of(8, m), empty.generatorSize(set), set == 0 ? 0 : 1);
                due("full: " + call + of(8, m), full.generatorSize(set), 0);
                due("every set closed: " + call, parts.generatorSize(set), Integer.bitCount(set));
            }
        }
    }

    private static void generatorSizeOfAnySet() {
        CHECK.about("19: a set whose closure is the closure of the given one, part of it or not");
        // The closure of {0,1} is all, and no smaller part of {0,1} has it; but {2} has.
        ConceptLattice x = Tables.table(3, 1, 2, 7);
        due("closure(3)", x.closure(3), 7);
        due("closure(4)", x.closure(4), 7);
        due("generatorSize(3)", x.generatorSize(3), 1);
        due("generatorSize(7)", x.generatorSize(7), 1);
        // Here {6} does for {0,1,2}, which needs all its three among its own parts.
        ConceptLattice y = Tables.table(7, 3, 5, 6, 127);
        due("closure(7)", y.closure(7), 127);
        due("generatorSize(7)", y.generatorSize(7), 1);
        due("generatorSize(3)", y.generatorSize(3), 2);
    }

    private static void dispensableNotGood() {
        CHECK.about("20: dispensable answers -1 if attribute is not good");
        for (int m = 2; m <= 7; m++) {
            ConceptLattice none = Tables.allParts(m);
            ConceptLattice every = Tables.full(8, m);
            for (int attribute : Tables.outside(m)) {
                due("dispensable(" + attribute + ")" + of(m, m), none.dispensable(attribute), -1);
                due("dispensable(" + attribute + ")" + of(8, m), every.dispensable(attribute), -1);
            }
        }
    }

    private static void dispensableOfEmptyAndFull() {
        CHECK.about("20: dispensable on empty and full tables");
        for (int n = 1; n <= 8; n++) {
            for (int m = 2; m <= 7; m++) {
                for (int a = 0; a < m; a++) {
                    String call = "dispensable(" + a + ")" + of(n, m);
                    due("empty: " + call, new ConceptLattice(n, m).dispensable(a), 1);
                    due("full: " + call, Tables.full(n, m).dispensable(a), 1);
                    due("every set closed: " + call, Tables.allParts(m).dispensable(a), 0);
                }
            }
        }
    }

    private static void dispensableByTheLowestPair() {
        CHECK.about("20: two closed sets that differ in just this attribute, the empty one among them");
        // Closed are the empty set, {a} and all; with two attributes, {a} and all differ in one too.
        for (int m = 2; m <= 7; m++) {
            for (int a = 0; a < m; a++) {
                ConceptLattice x = Tables.table(m, 0, 1 << a);
                for (int b = 0; b < m; b++) {
                    due("dispensable(" + b + ") beside " + a, x.dispensable(b), b == a || m == 2 ? 0 : 1);
                }
            }
        }
    }

    private static void dispensableByTheHighestPair() {
        CHECK.about("20: two closed sets that differ in just this attribute, the full one among them");
        // Closed are all, and all but a.
        for (int m = 2; m <= 7; m++) {
            for (int a = 0; a < m; a++) {
                ConceptLattice x = Tables.table(m, (1 << m) - 1 - (1 << a));
                for (int b = 0; b < m; b++) {
                    due("dispensable(" + b + ") without " + a, x.dispensable(b), b == a ? 0 : 1);
                }
            }
        }
    }
}
