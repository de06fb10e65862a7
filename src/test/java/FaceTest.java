import java.lang.reflect.Constructor;
import java.lang.reflect.Field;
import java.lang.reflect.Method;
import java.lang.reflect.Modifier;
import java.util.Set;
import java.util.TreeSet;

/** The public face is the document's and no more (LANGUAGE.md, rules 1, 2 and 5). */
public final class FaceTest {
    private static final Set<String> FACE = Set.of(
            "objects/0", "attributes/0", "cross/3", "row/2", "rowOf/1", "extent/1", "intent/1",
            "closure/1", "closedSets/0", "closedSet/1", "nextClosed/1", "follows/2", "rules/0",
            "rule/1", "covers/1", "links/0", "height/0", "generatorSize/1", "dispensable/1");
    private static final Set<Class<?>> FIELD_TYPES = Set.of(
            int.class, long.class, short.class, byte.class, char.class, boolean.class,
            int[].class, long[].class, short[].class, byte[].class, char[].class, boolean[].class);

    public static void main(String[] args) {
        Check check = new Check();
        Class<?> face = ConceptLattice.class;
        check.due("class is public", bit(Modifier.isPublic(face.getModifiers())), 1);
        check.due("class is final", bit(Modifier.isFinal(face.getModifiers())), 1);
        check.due("nested classes", face.getDeclaredClasses().length, 0);
        constructors(check, face);
        methods(check, face);
        fields(check, face);
        check.end();
    }

    private static void constructors(Check check, Class<?> face) {
        Constructor<?>[] all = face.getDeclaredConstructors();
        check.due("constructors", all.length, 1);
        check.due("constructor is public", bit(Modifier.isPublic(all[0].getModifiers())), 1);
        check.due("constructor parameters", all[0].getParameterCount(), 2);
    }

    private static void methods(Check check, Class<?> face) {
        Set<String> found = new TreeSet<>();
        Set<String> publicNames = new TreeSet<>();
        for (Method method : face.getDeclaredMethods()) {
            if (!Modifier.isPrivate(method.getModifiers())) {
                found.add(method.getName() + "/" + method.getParameterCount());
                publicNames.add(method.getName());
                check.due(method + " is public", bit(Modifier.isPublic(method.getModifiers())), 1);
                check.due(method + " answers int", bit(method.getReturnType() == int.class), 1);
                for (Class<?> type : method.getParameterTypes()) {
                    check.due(method + " takes ints", bit(type == int.class), 1);
                }
            }
        }
        check.due("methods " + found + " are those of the document", bit(found.equals(FACE)), 1);
        for (Method method : face.getDeclaredMethods()) {
            if (Modifier.isPrivate(method.getModifiers())) {
                check.due(method + " bears a public name", bit(publicNames.contains(method.getName())), 0);
            }
        }
    }

    private static void fields(Check check, Class<?> face) {
        for (Field field : face.getDeclaredFields()) {
            check.due(field + " is private", bit(Modifier.isPrivate(field.getModifiers())), 1);
            check.due(field + " has an allowed type", bit(FIELD_TYPES.contains(field.getType())), 1);
            if (Modifier.isStatic(field.getModifiers())) {
                boolean number = field.getType() == int.class || field.getType() == long.class;
                check.due(field + " is a constant number",
                        bit(number && Modifier.isFinal(field.getModifiers())), 1);
            }
        }
    }

    private static int bit(boolean truth) {
        return truth ? 1 : 0;
    }
}
