import java.lang.reflect.Constructor;
import java.lang.reflect.Field;
import java.lang.reflect.Method;
import java.lang.reflect.Modifier;
import java.util.Set;
import java.util.TreeSet;

/** The public face is the document's, and nothing besides. */
final class FaceTest {
    private static final String INDEX = "IndexOutOfBoundsException";
    private static final String ARGUMENT = "IllegalArgumentException";
    private static final String STATE = "IllegalStateException";

    public static void main(String[] args) throws Exception {
        theClass();
        constants();
        methods();
        nothingElse();
        noNamesakes();
        classesInside();
        Check.finish("FaceTest");
    }

    private static void theClass() {
        Check.due("modifiers", MudCouncil.class.getModifiers(), Modifier.PUBLIC | Modifier.FINAL);
        Check.due("superclass", MudCouncil.class.getSuperclass(), Object.class);
        Constructor<?>[] constructors = MudCouncil.class.getDeclaredConstructors();
        Check.due("constructors", constructors.length, 1);
        Check.due("constructor", constructors[0].toString(), "public MudCouncil()");
    }

    private static void constants() throws Exception {
        constant("NONE", -1);
        constant("NORTH", 0);
        constant("EAST", 1);
        constant("SOUTH", 2);
        constant("WEST", 3);
        constant("VISIT", 0);
        constant("HOLD", 1);
        constant("SAY", 2);
        constant("BEAT", 3);
    }

    private static void constant(String name, int value) throws Exception {
        Field field = MudCouncil.class.getField(name);
        Check.due(name + " is", field.toString(), "public static final int MudCouncil." + name);
        Check.due(name, field.getInt(null), value);
    }

    private static void methods() {
        method("void", "link", 3, INDEX, ARGUMENT, STATE);
        method("void", "shop", 2, INDEX, ARGUMENT, STATE);
        method("int", "stock", 4, INDEX, ARGUMENT, STATE);
        method("int", "scatter", 3, INDEX, ARGUMENT);
        method("int", "join", 3, INDEX, ARGUMENT, STATE);
        method("int", "quest", 1, ARGUMENT, STATE);
        method("int", "stage", 4, INDEX, ARGUMENT, STATE);
        method("int", "endow", 1, ARGUMENT);
        method("void", "seed", 1, ARGUMENT);
        method("int", "go", 1, INDEX, STATE);
        method("int", "say", 1, ARGUMENT, STATE);
        method("int", "shout", 1, ARGUMENT, STATE);
        method("int", "take", 1, INDEX, STATE);
        method("int", "drop", 1, INDEX, STATE);
        method("int", "give", 2, INDEX, STATE);
        method("int", "pay", 2, INDEX, ARGUMENT, STATE);
        method("int", "buy", 1, INDEX, STATE);
        method("int", "sell", 1, INDEX, STATE);
        method("int", "attack", 1, INDEX, STATE);
        method("int", "rest", 0, STATE);
        method("int", "turn", 0);
        method("int", "readyAt", 1, INDEX);
        method("int", "roomOf", 1, INDEX);
        method("int", "coinsOf", 1, INDEX);
        method("int", "healthOf", 1, INDEX);
        method("int", "goodsOf", 2, INDEX);
        method("int", "heard", 2, INDEX);
        method("int", "stageOf", 2, INDEX);
        method("int", "exit", 2, INDEX);
        method("int", "distance", 2, INDEX);
        method("int", "onFloor", 2, INDEX);
        method("int", "stockOf", 2, INDEX);
        method("int", "tillOf", 1, INDEX);
        method("int", "purse", 0);
        method("int", "allCoins", 0);
        method("int", "allGoods", 1, INDEX);
        method("int", "calls", 0);
        method("int", "roomAfter", 2, INDEX);
        method("int", "coinsAfter", 2, INDEX);
        method("int", "turnAfter", 1, INDEX);
    }

    private static final Set<String> DUE_METHODS = new TreeSet<>();

    private static void method(String answer, String name, int arguments, String... exceptions) {
        StringBuilder text = new StringBuilder("public ").append(answer).append(" MudCouncil.").append(name).append('(');
        for (int i = 0; i < arguments; i++) {
            text.append(i == 0 ? "int" : ",int");
        }
        text.append(')');
        for (int i = 0; i < exceptions.length; i++) {
            text.append(i == 0 ? " throws java.lang." : ",java.lang.").append(exceptions[i]);
        }
        DUE_METHODS.add(text.toString());
    }

    private static void nothingElse() {
        Set<String> found = new TreeSet<>();
        for (Method method : MudCouncil.class.getDeclaredMethods()) {
            if (!Modifier.isPrivate(method.getModifiers()) && !method.isSynthetic()) {
                found.add(method.toString());
            }
        }
        Check.due("methods", found, DUE_METHODS);
        int open = 0;
        for (Field field : MudCouncil.class.getDeclaredFields()) {
            open += Modifier.isPrivate(field.getModifiers()) ? 0 : 1;
        }
        Check.due("constants", open, 9);
    }

    private static void noNamesakes() {
        Set<String> open = new TreeSet<>();
        Set<String> hidden = new TreeSet<>();
        for (Method method : MudCouncil.class.getDeclaredMethods()) {
            (Modifier.isPublic(method.getModifiers()) ? open : hidden).add(method.getName());
        }
        hidden.retainAll(open);
        Check.due("private methods that bear the name of a public one", hidden, Set.of());
    }

    private static void classesInside() {
        for (Class<?> inside : MudCouncil.class.getDeclaredClasses()) {
            int modifiers = inside.getModifiers();
            Check.due(inside.getName() + " is static", Modifier.isStatic(modifiers), true);
            Check.due(inside.getName() + " is open", Modifier.isPublic(modifiers) || Modifier.isProtected(modifiers), false);
        }
    }
}
