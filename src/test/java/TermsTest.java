import java.util.ArrayList;
import java.util.List;
import java.util.function.ToIntFunction;

/** The sentences of 'What it is' and of 'Terms' that name a boundary case, each with its own test. */
public final class TermsTest {
    private static final int LEAST = Tables.LEAST;
    private static final int MOST = Tables.MOST;
    private static final int CALLS = 512;
    private static final Check CHECK = new Check();

    private record Call(String name, ToIntFunction<ConceptLattice> made) {
    }

    public static void main(String[] args) {
        lastOfQuestions();
        lastOfChanges();
        lastOfRefused();
        lastOfAll();

        noObjectHasAnyAtFirst();
        allObjectsForTheEmptySet();
        allAttributesForTheEmptySet();
        allAttributesAreClosed();
        closedIsItsOwnClosure();
        pseudoClosedIsNotClosed();
        pseudoClosedFromTheSmallest();
        coversProperly();
        coversWithNothingBetween();

        noQuestionChangesAnything();
        refusedCallChangesNothing();
        testsInTheOrderNamed();
        goodObjects();
        goodAttributes();
        goodSets();
        objectsApart();
        CHECK.end();
    }

    private static void due(String call, int got, int want) {
        CHECK.due(call, got, want);
    }

    private static int all(ConceptLattice x) {
        return (1 << x.attributes()) - 1;
    }

    private static List<ConceptLattice> tables() {
        List<ConceptLattice> list = new ArrayList<>();
        for (int m = 2; m <= 7; m++) {
            list.add(new ConceptLattice(1, m));
            list.add(new ConceptLattice(8, m));
            list.add(Tables.full(1, m));
            list.add(Tables.full(8, m));
            list.add(Tables.allParts(m));
            list.add(Tables.table(m, 0, (1 << m) - 1));
            list.add(Tables.table(m, 1, 1, 3));
            list.add(Tables.table(m, (1 << m) - 2));
        }
        list.add(Tables.kite());
        list.add(Tables.pentagon());
        list.add(Tables.table(7, 0, 1, 3, 7, 15, 31, 63, 127));
        list.add(Tables.table(7, 85, 42, 51, 76, 15, 112, 99, 28));
        return list;
    }

    // 'What it is': the first 512 calls are promised, whichever they are.

    private static void lastOfQuestions() {
        CHECK.about("at most 512 calls: the 512th, after questions alone");
        List<Call> questions = questions();
        for (Call last : questions) {
            ConceptLattice x = busy();
            int made = 8;
            for (; made < CALLS - 1; made++) {
                questions.get(made % questions.size()).made().applyAsInt(x);
            }
            due(last.name(), last.made().applyAsInt(x), last.made().applyAsInt(busy()));
        }
    }

    private static void lastOfChanges() {
        CHECK.about("at most 512 calls: the 512th, after changes alone");
        ConceptLattice x = new ConceptLattice(8, 7);
        for (int made = 0; made < CALLS - 1; made++) {
            int before = made < 8 ? 0 : (made - 8) % 128;
            due("row, call " + (made + 1), x.row(made % 8, made % 128), before);
        }
        // The 511th call left 510 % 128 = 126 with object 6.
        due("cross(6, 0, 1), call 512", x.cross(6, 0, 1), 0);
        ConceptLattice y = new ConceptLattice(1, 2);
        for (int made = 0; made < CALLS; made++) {
            due("cross, call " + (made + 1), y.cross(0, 1, 1 - made % 2), made % 2);
        }
    }

    private static void lastOfRefused() {
        CHECK.about("at most 512 calls: the 512th, after refused calls alone");
        ConceptLattice x = new ConceptLattice(8, 7);
        for (int made = 0; made < CALLS - 1; made++) {
            due("row(0, 128), call " + (made + 1), x.row(0, 128), -2);
        }
        due("closedSets(), call 512", x.closedSets(), 2);
    }

    private static void lastOfAll() {
        CHECK.about("at most 512 calls: each of them, of all kinds in turn");
        ConceptLattice x = new ConceptLattice(8, 7);
        int[] rows = new int[8];
        for (int made = 0; made < CALLS; made += 4) {
            int object = made / 4 % 8;
            int set = made * 37 % 128;
            due("row, call " + (made + 1), x.row(object, set), rows[object]);
            rows[object] = set;
            due("cross, call " + (made + 2), x.cross(object, 8, 1), -2);
            Model model = new Model(8, 7, rows);
            due("rules, call " + (made + 3), x.rules(), model.pseudo.size());
            due("links, call " + (made + 4), x.links(), model.links());
        }
    }

    // 'Terms'

    private static void noObjectHasAnyAtFirst() {
        CHECK.about("no object has any at first");
        for (int n = 1; n <= 8; n++) {
            for (int m = 2; m <= 7; m++) {
                ConceptLattice x = new ConceptLattice(n, m);
                for (int object = 0; object < n; object++) {
                    due("rowOf(" + object + ")", x.rowOf(object), 0);
                    for (int attribute = 0; attribute < m; attribute++) {
                        due("cross, as it was", x.cross(object, attribute, 0), 0);
                    }
                }
                for (int attribute = 0; attribute < m; attribute++) {
                    due("extent(2^" + attribute + ")", x.extent(1 << attribute), 0);
                }
            }
        }
    }

    private static void allObjectsForTheEmptySet() {
        CHECK.about("extent: all objects for the empty set");
        for (ConceptLattice x : tables()) {
            due("extent(0)", x.extent(0), (1 << x.objects()) - 1);
        }
    }

    private static void allAttributesForTheEmptySet() {
        CHECK.about("intent: all attributes for the empty set");
        for (ConceptLattice x : tables()) {
            due("intent(0)", x.intent(0), all(x));
        }
        // A set whose extent is empty has all attributes for its closure.
        ConceptLattice kite = Tables.kite();
        due("extent(8)", kite.extent(8), 0);
        due("closure(8)", kite.closure(8), 15);
        due("follows(8, 7)", kite.follows(8, 7), 1);
    }

    private static void allAttributesAreClosed() {
        CHECK.about("all attributes together are closed");
        for (ConceptLattice x : tables()) {
            int all = all(x);
            int count = x.closedSets();
            due("closure(all)", x.closure(all), all);
            due("the last closedSet", x.closedSet(count - 1), all);
            due("closedSet behind the last", x.closedSet(count), -1);
            due("nextClosed(all - 1)", x.nextClosed(all - 1), all);
            due("nextClosed(all)", x.nextClosed(all), -1);
            due("covers(all)", x.covers(all), 0);
        }
    }

    private static void closedIsItsOwnClosure() {
        CHECK.about("closed if it is its own closure");
        for (ConceptLattice x : tables()) {
            int found = 0;
            for (int set = 0; set <= all(x); set++) {
                if (x.closure(set) == set) {
                    due("nextClosed(" + (set - 1) + ")", x.nextClosed(set - 1), set);
                    found++;
                }
            }
            due("closedSets()", x.closedSets(), found);
        }
    }

    private static void pseudoClosedIsNotClosed() {
        CHECK.about("pseudo-closed if it is not closed");
        for (ConceptLattice x : tables()) {
            int count = x.rules();
            int before = -1;
            for (int i = 0; i < count; i++) {
                int set = x.rule(i);
                due("rule(" + i + ") rises", set > before ? 1 : 0, 1);
                due("rule(" + i + ") is closed", x.closure(set) == set ? 1 : 0, 0);
                before = set;
            }
            due("rule behind the last", x.rule(count), -1);
        }
    }

    private static void pseudoClosedFromTheSmallest() {
        CHECK.about("pseudo-closed: every pseudo-closed proper part has its closure in it");
        // Attribute 0 belongs to all: {} gives {0}. So {1} is none, for it lacks 0; {0,1} is one.
        ConceptLattice x = Tables.table(3, 5, 1, 7);
        due("rules() with {} first", x.rules(), 2);
        due("rule(0)", x.rule(0), 0);
        due("rule(1)", x.rule(1), 3);
        // {1} gives {0}, {2} gives {0}: {1,2} lacks 0 and is none; nor is {0,1,2}, being closed.
        ConceptLattice y = Tables.table(3, 0, 1, 3, 5);
        due("rules() of two that give one", y.rules(), 2);
        due("rule(0) of two", y.rule(0), 2);
        due("rule(1) of two", y.rule(1), 4);
        // {0,1} lacks nothing that {0} or {1} gives, both being closed: a rule of two attributes.
        ConceptLattice z = Tables.table(3, 1, 2, 4);
        due("rules() of pairs", z.rules(), 3);
        due("rule(0) of pairs", z.rule(0), 3);
        due("rule(1) of pairs", z.rule(1), 5);
        due("rule(2) of pairs", z.rule(2), 6);
        // {0} gives 1, so {0,2} lacks it and is none, but {0,1,2} is one, as are {1,3} and {2,3};
        // {0,1,3} is none, since {1,3} gives 2.
        ConceptLattice w = Tables.table(4, 3, 2, 6, 4, 8, 15);
        due("rules() of w", w.rules(), 4);
        due("rule(0) of w", w.rule(0), 1);
        due("rule(1) of w", w.rule(1), 7);
        due("rule(2) of w", w.rule(2), 10);
        due("rule(3) of w", w.rule(3), 12);
    }

    private static void coversProperly() {
        CHECK.about("covers: a proper part, so none covers itself");
        ConceptLattice one = Tables.full(3, 3);
        due("covers(7) of one closed set", one.covers(7), 0);
        due("links() of one closed set", one.links(), 0);
        ConceptLattice two = Tables.table(3, 3);
        due("covers(3) of two closed sets", two.covers(3), 1);
        due("covers(7) of two closed sets", two.covers(7), 0);
        due("links() of two closed sets", two.links(), 1);
    }

    private static void coversWithNothingBetween() {
        CHECK.about("covers: no closed set lies strictly between");
        // A chain of eight: each is covered by the next alone, and not by those behind it.
        ConceptLattice chain = Tables.table(7, 0, 1, 3, 7, 15, 31, 63, 127);
        for (int k = 0; k < 7; k++) {
            due("chain: covers(" + ((1 << k) - 1) + ")", chain.covers((1 << k) - 1), 1);
        }
        due("chain: links()", chain.links(), 7);
        // 7 is above 4 with nothing between, though 3 lies between 1 and 7.
        ConceptLattice pentagon = Tables.pentagon();
        due("pentagon: covers(0)", pentagon.covers(0), 2);
        due("pentagon: covers(1)", pentagon.covers(1), 1);
        due("pentagon: covers(4)", pentagon.covers(4), 1);
        due("pentagon: links()", pentagon.links(), 5);
    }

    // A table of the greatest size, on which every question has something to do.
    private static ConceptLattice busy() {
        return Tables.table(7, 85, 42, 51, 76, 15, 112, 99, 28);
    }

    private static List<Call> questions() {
        List<Call> list = new ArrayList<>();
        list.add(new Call("objects()", ConceptLattice::objects));
        list.add(new Call("attributes()", ConceptLattice::attributes));
        list.add(new Call("closedSets()", ConceptLattice::closedSets));
        list.add(new Call("rules()", ConceptLattice::rules));
        list.add(new Call("links()", ConceptLattice::links));
        list.add(new Call("height()", ConceptLattice::height));
        // Good and wrong ones for every method, since a refused question changes nothing either.
        for (int v : new int[] {LEAST, -1, 0, 1, 3, 5, 6, 7, 8, 64, 127, 128, 255, 256, MOST}) {
            list.add(new Call("rowOf(" + v + ")", x -> x.rowOf(v)));
            list.add(new Call("extent(" + v + ")", x -> x.extent(v)));
            list.add(new Call("intent(" + v + ")", x -> x.intent(v)));
            list.add(new Call("closure(" + v + ")", x -> x.closure(v)));
            list.add(new Call("closedSet(" + v + ")", x -> x.closedSet(v)));
            list.add(new Call("nextClosed(" + v + ")", x -> x.nextClosed(v)));
            list.add(new Call("follows(" + v + ", 1)", x -> x.follows(v, 1)));
            list.add(new Call("follows(3, " + v + ")", x -> x.follows(3, v)));
            list.add(new Call("rule(" + v + ")", x -> x.rule(v)));
            list.add(new Call("covers(" + v + ")", x -> x.covers(v)));
            list.add(new Call("generatorSize(" + v + ")", x -> x.generatorSize(v)));
            list.add(new Call("dispensable(" + v + ")", x -> x.dispensable(v)));
        }
        return list;
    }

    private static List<Call> refused() {
        List<Call> list = new ArrayList<>();
        for (int bad : Tables.outside(8)) {
            list.add(new Call("cross(" + bad + ", 0, 1)", x -> x.cross(bad, 0, 1)));
            list.add(new Call("cross(" + bad + ", 0, 0)", x -> x.cross(bad, 0, 0)));
            list.add(new Call("row(" + bad + ", 0)", x -> x.row(bad, 0)));
            list.add(new Call("row(" + bad + ", 127)", x -> x.row(bad, 127)));
        }
        for (int bad : Tables.outside(7)) {
            list.add(new Call("cross(0, " + bad + ", 1)", x -> x.cross(0, bad, 1)));
            list.add(new Call("cross(7, " + bad + ", 0)", x -> x.cross(7, bad, 0)));
            list.add(new Call("cross(-1, " + bad + ", 1)", x -> x.cross(-1, bad, 1)));
        }
        for (int bad : Tables.outside(128)) {
            list.add(new Call("row(0, " + bad + ")", x -> x.row(0, bad)));
            list.add(new Call("row(7, " + bad + ")", x -> x.row(7, bad)));
            list.add(new Call("row(8, " + bad + ")", x -> x.row(8, bad)));
        }
        return list;
    }

    // Each call with a new object, and after it every question as on an object that had no such call.
    private static void leaveAllAsItWas(List<Call> calls) {
        List<Call> questions = questions();
        ConceptLattice untouched = busy();
        int[] want = new int[questions.size()];
        for (int i = 0; i < want.length; i++) {
            want[i] = questions.get(i).made().applyAsInt(untouched);
        }
        for (Call call : calls) {
            ConceptLattice x = busy();
            for (int i = 0; i < want.length; i++) {
                call.made().applyAsInt(x);
                Call question = questions.get(i);
                due(question.name() + " after " + call.name(), question.made().applyAsInt(x), want[i]);
            }
        }
    }

    private static void noQuestionChangesAnything() {
        CHECK.about("no question changes anything");
        leaveAllAsItWas(questions());
    }

    private static void refusedCallChangesNothing() {
        CHECK.about("a refused call changes nothing");
        for (Call call : refused()) {
            due(call.name() + " is refused", call.made().applyAsInt(busy()) < 0 ? 1 : 0, 1);
        }
        leaveAllAsItWas(refused());
    }

    private static void testsInTheOrderNamed() {
        CHECK.about("in every method the tests are made in the order named");
        ConceptLattice x = new ConceptLattice(3, 4);
        due("cross, both wrong", x.cross(3, 4, 1), -1);
        due("cross, object wrong", x.cross(3, 3, 1), -1);
        due("cross, attribute wrong", x.cross(2, 4, 1), -2);
        due("row, both wrong", x.row(-1, -1), -1);
        due("row, object wrong", x.row(-1, 15), -1);
        due("row, set wrong", x.row(0, 16), -2);
        due("follows, both wrong", x.follows(-1, 16), -1);
        due("follows, p wrong", x.follows(-1, 15), -1);
        due("follows, q wrong", x.follows(15, 16), -1);
    }

    private static void goodObjects() {
        CHECK.about("an object is good if it is 0 .. n-1");
        for (int n = 1; n <= 8; n++) {
            ConceptLattice x = new ConceptLattice(n, 2);
            for (int object = -2; object <= 10; object++) {
                boolean good = object >= 0 && object < n;
                due("cross(" + object + ", 1, 1) of " + n, x.cross(object, 1, 1), good ? 0 : -1);
                due("row(" + object + ", 1) of " + n, x.row(object, 1), good ? 2 : -1);
                due("rowOf(" + object + ") of " + n, x.rowOf(object), good ? 1 : -1);
            }
        }
    }

    private static void goodAttributes() {
        CHECK.about("an attribute is good if it is 0 .. m-1");
        for (int m = 2; m <= 7; m++) {
            ConceptLattice x = new ConceptLattice(1, m);
            for (int attribute = -2; attribute <= 10; attribute++) {
                boolean good = attribute >= 0 && attribute < m;
                due("dispensable(" + attribute + ") of " + m, x.dispensable(attribute), good ? 1 : -1);
                due("cross(0, " + attribute + ", 0) of " + m, x.cross(0, attribute, 0), good ? 0 : -2);
            }
        }
    }

    private static void goodSets() {
        CHECK.about("a set of attributes is good if it is 0 .. 2^m - 1");
        for (int m = 2; m <= 7; m++) {
            for (int set = -2; set <= 130; set++) {
                ConceptLattice x = Tables.full(1, m);
                boolean good = set >= 0 && set < 1 << m;
                int all = (1 << m) - 1;
                due("extent(" + set + ") of " + m, x.extent(set), good ? 1 : -1);
                due("closure(" + set + ") of " + m, x.closure(set), good ? all : -1);
                due("follows(" + set + ", 0) of " + m, x.follows(set, 0), good ? 1 : -1);
                due("follows(0, " + set + ") of " + m, x.follows(0, set), good ? 1 : -1);
                due("covers(" + set + ") of " + m, x.covers(set), good ? 0 : -1);
                due("generatorSize(" + set + ") of " + m, x.generatorSize(set), good ? 0 : -1);
                due("row(0, " + set + ") of " + m, x.row(0, set), good ? all : -2);
            }
        }
    }

    private static void objectsApart() {
        CHECK.about("two objects of the class, each with its own table");
        ConceptLattice x = Tables.kite();
        ConceptLattice y = Tables.allParts(7);
        due("x.rules()", x.rules(), 2);
        due("y.rules()", y.rules(), 0);
        due("y.height()", y.height(), 8);
        due("x.height()", x.height(), 4);
        due("y.row(0, 0)", y.row(0, 0), 126);
        due("x.rowOf(0)", x.rowOf(0), 3);
        due("x.rule(1)", x.rule(1), 10);
        due("x.closedSets()", x.closedSets(), 5);
    }
}
