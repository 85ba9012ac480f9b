import java.lang.reflect.Constructor;
import java.lang.reflect.Field;
import java.lang.reflect.Method;
import java.lang.reflect.Modifier;
import java.util.Arrays;
import java.util.Set;
import java.util.TreeSet;

/** The class has the document's face and nothing else that is not private. */
public final class FaceTest {
    private static final String FACE = "int setColumns(int,int);int addRow(int,int);int dropRow(int);int setCost(int,int);"
            + "int setTrust(int,int);int setWithdrawn(int,boolean);int setQuery();int dropQuery();int append(int);"
            + "int clearText();int fault();int undo();int columns(int);int tags();int withdrawn();int tableOf(int);"
            + "int value(int,int);int cost(int);int trust(int);int queryLength();int queryAt(int);int answerRows();"
            + "int answerColumns();int answerValue(int,int);int terms(int,int);long coefficient(int,int,int);"
            + "int exponent(int,int,int,int);int lineage(int);long derivations(int);int leastCost(int);"
            + "int cheapestTags(int);int answerTrust(int);float confidence(int);int needed(int);int smallestCut(int);"
            + "int worlds(int);int lostIf(int);int print(int,int);int printed(int)";
    private static final String CONSTANTS = "NO_SUCH=-1;BAD_VALUE=-2;BAD_TEXT=-3;TOO_MANY=-4;NOT_POSSIBLE=-5;NONE=-6";

    public static void main(String[] args) throws IllegalAccessException {
        Class<?> c = ProvenanceTables.class;
        Set<String> names = new TreeSet<>();
        Set<String> methods = new TreeSet<>();
        Set<String> privates = new TreeSet<>();
        for (Method m : c.getDeclaredMethods()) {
            if (Modifier.isPrivate(m.getModifiers()) || m.isSynthetic()) {
                privates.add(m.getName());
                continue;
            }
            String types = String.join(",", Arrays.stream(m.getParameterTypes()).map(Class::getName).toList());
            methods.add((m.getModifiers() == Modifier.PUBLIC ? "" : "not only public ") + m.getReturnType() + " "
                    + m.getName() + "(" + types + ")");
            names.add(m.getName());
        }
        Set<String> fields = new TreeSet<>();
        for (Field f : c.getDeclaredFields()) {
            if (!Modifier.isPrivate(f.getModifiers())) {
                boolean isConstant = f.getModifiers() == (Modifier.PUBLIC | Modifier.STATIC | Modifier.FINAL)
                        && f.getType() == int.class;
                fields.add((isConstant ? "" : "no constant ") + f.getName() + "=" + f.getInt(null));
            }
        }
        boolean isRight = same("methods", methods, FACE) & same("constants", fields, CONSTANTS);
        isRight &= c.getModifiers() == (Modifier.PUBLIC | Modifier.FINAL);
        Constructor<?>[] constructors = c.getDeclaredConstructors();
        isRight &= constructors.length == 1 && constructors[0].getModifiers() == Modifier.PUBLIC
                && constructors[0].getParameterCount() == 0;
        privates.retainAll(names);
        isRight &= privates.isEmpty();
        for (Class<?> inner : c.getDeclaredClasses()) {
            isRight &= (inner.getModifiers() & (Modifier.PUBLIC | Modifier.PROTECTED)) == 0;
        }
        System.out.println(isRight ? "the face is as due" : "the face is not as due");
        if (!isRight) {
            System.exit(1);
        }
    }

    private static boolean same(String what, Set<String> got, String want) {
        Set<String> wanted = new TreeSet<>(Arrays.asList(want.split(";")));
        if (!got.equals(wanted)) {
            System.out.println(what + " are " + got + ", due are " + wanted);
        }
        return got.equals(wanted);
    }
}
