import java.lang.reflect.Constructor;
import java.lang.reflect.Executable;
import java.lang.reflect.Field;
import java.lang.reflect.Method;
import java.lang.reflect.Modifier;
import java.util.ArrayList;
import java.util.Arrays;
import java.util.List;
import java.util.TreeSet;

/** "The public face": every signature and constant that it gives, and nothing beside them. */
public final class FaceTest {
    private static final Check CHECK = new Check("FaceTest");
    private static final Class<?> SHOP = ForgeHeats.class;
    private static final int TURNS = 30;
    private static final String PLACE = "IndexOutOfBoundsException";
    private static final String ARGUMENT = "IllegalArgumentException";
    private static final String STATE = "IllegalStateException";

    /** The methods as the document gives them: what they return, their parameters, their throws clause. */
    private static final String[] METHODS = {
        "int stock(int, int) throws " + PLACE + ", " + ARGUMENT + ", " + STATE,
        "int range(int, int, int) throws " + PLACE + ", " + ARGUMENT,
        "int die(int, int, int) throws " + PLACE + ", " + ARGUMENT + ", " + STATE,
        "int grind(int) throws " + PLACE + ", " + STATE,
        "int job(int, int, int, int, boolean) throws " + PLACE + ", " + ARGUMENT + ", " + STATE,
        "int cancel(int) throws " + PLACE,
        "int rush(int, boolean) throws " + PLACE,
        "int set(int, int) throws " + PLACE + ", " + ARGUMENT,
        "int pass(int) throws " + ARGUMENT + ", " + STATE,
        "int append(int) throws " + ARGUMENT + ", " + STATE,
        "int clearBuffer()",
        "int firstError()",
        "int addAll() throws " + ARGUMENT + ", " + STATE,
        "int undo() throws " + STATE,
        "int heat(int, int) throws " + PLACE + ", " + ARGUMENT,
        "int dieOf(int, int) throws " + PLACE + ", " + ARGUMENT,
        "int jobOf(int, int) throws " + ARGUMENT,
        "int billet(int, int) throws " + PLACE + ", " + ARGUMENT,
        "int count(int) throws " + ARGUMENT,
        "int setting(int) throws " + PLACE,
        "int ifPassed(int, int) throws " + ARGUMENT,
        "int doneIn(int) throws " + PLACE,
        "int ifRush(int) throws " + PLACE,
        "int bestReheats(int) throws " + ARGUMENT,
        "double saved()",
        "long digest()",
    };

    private static void same(String what, Object got, Object want) {
        CHECK.alike(what, List.of(got), List.of(want));
    }

    private static boolean isPrivate(int modifiers) {
        return Modifier.isPrivate(modifiers);
    }

    /** "(int, boolean) throws X, Y". */
    private static String tail(Executable member) {
        String parameters = names(member.getParameterTypes());
        String thrown = names(member.getExceptionTypes());
        return "(" + parameters + ")" + (thrown.isEmpty() ? "" : " throws " + thrown);
    }

    private static String names(Class<?>[] types) {
        List<String> names = new ArrayList<>();
        for (Class<?> type : types) {
            names.add(type.getSimpleName());
        }
        return String.join(", ", names);
    }

    /** "public final class ForgeHeats", without a package, a class above it or interfaces. */
    private static void theClass() {
        same("the modifiers", Modifier.toString(SHOP.getModifiers()), "public final");
        same("the name", SHOP.getName(), "ForgeHeats");
        same("the class above it", SHOP.getSuperclass(), Object.class);
        CHECK.same("interfaces", SHOP.getInterfaces().length, 0);
        CHECK.same("parameters for types", SHOP.getTypeParameters().length, 0);
    }

    /** "public static final int NONE = -1": the only field that is not private. */
    private static void theConstant() {
        List<String> seen = new ArrayList<>();
        for (Field field : SHOP.getDeclaredFields()) {
            if (!isPrivate(field.getModifiers())) {
                seen.add(Modifier.toString(field.getModifiers()) + " " + field.getType() + " " + field.getName());
            }
        }
        same("the constants", seen, List.of("public static final int NONE"));
        CHECK.same("NONE", ForgeHeats.NONE, -1);
        // A constant for the compiler, too, which a switch may name.
        switch (ForgeHeats.NONE) {
            case -1 -> CHECK.same("a case of NONE", ForgeHeats.NONE, -1);
            default -> CHECK.tell("NONE is not -1");
        }
    }

    /** "public ForgeHeats()": the only constructor, and it throws nothing. */
    private static void theConstructor() {
        List<String> seen = new ArrayList<>();
        for (Constructor<?> constructor : SHOP.getDeclaredConstructors()) {
            seen.add(Modifier.toString(constructor.getModifiers()) + " " + tail(constructor));
        }
        same("the constructors", seen, List.of("public ()"));
    }

    /** Each method with its throws clause in the document's order, and no other that is not private. */
    private static void theMethods() {
        TreeSet<String> seen = new TreeSet<>();
        for (Method method : SHOP.getDeclaredMethods()) {
            if (!isPrivate(method.getModifiers())) {
                String modifiers = Modifier.toString(method.getModifiers());
                same("the modifiers of " + method.getName(), modifiers, "public");
                seen.add(method.getReturnType().getSimpleName() + " " + method.getName() + tail(method));
            }
        }
        TreeSet<String> due = new TreeSet<>(Arrays.asList(METHODS));
        CHECK.same("26 methods", due.size(), 26);
        for (String method : due) {
            CHECK.same(method, seen.contains(method) ? 1 : 0, 1);
        }
        seen.removeAll(due);
        same("methods that the document does not give", seen, new TreeSet<String>());
    }

    /** The document knows no other class: those inside are hidden, and need no outer object. */
    private static void theClassesInside() {
        for (Class<?> inside : SHOP.getDeclaredClasses()) {
            int modifiers = inside.getModifiers();
            String name = inside.getSimpleName();
            CHECK.same(name + " is hidden", Modifier.isPublic(modifiers) || Modifier.isProtected(modifiers) ? 1 : 0, 0);
            CHECK.same(name + " is static", Modifier.isStatic(modifiers) ? 1 : 0, 1);
        }
    }

    /** LANGUAGE.md, rule 1: "No private method bears the name of a public one." */
    private static void namesOfPrivateMethods() {
        List<Class<?>> classes = new ArrayList<>(List.of(SHOP.getDeclaredClasses()));
        classes.add(SHOP);
        for (Class<?> each : classes) {
            for (Method method : each.getDeclaredMethods()) {
                boolean isOfTheFace = each == SHOP && !isPrivate(method.getModifiers());
                if (!isOfTheFace) {
                    String call = " " + method.getName() + "(";
                    boolean isTaken = Arrays.stream(METHODS).anyMatch(given -> given.contains(call));
                    CHECK.same(each.getSimpleName() + call + ") bears a name of the face", isTaken ? 1 : 0, 0);
                }
            }
        }
    }

    /** "Creates a shop": each object is one of its own, so two that are used by turns answer as each alone. */
    private static void objectsApart() {
        List<Object> alone = new ArrayList<>();
        for (int kind = 0; kind <= 1; kind++) {
            ForgeHeats shop = new ForgeHeats();
            for (int turn = 0; turn < TURNS; turn++) {
                alone.add(turn(shop, kind, turn));
            }
        }
        ForgeHeats[] shops = {new ForgeHeats(), new ForgeHeats()};
        Object[] byTurns = new Object[2 * TURNS];
        for (int turn = 0; turn < TURNS; turn++) {
            byTurns[turn] = turn(shops[0], 0, turn);
            byTurns[TURNS + turn] = turn(shops[1], 1, turn);
        }
        CHECK.alike("two shops by turns", Arrays.asList(byTurns), alone);
    }

    /** A call of each kind of method, other ones for each shop, and what is to be seen of it then. */
    private static long turn(ForgeHeats shop, int kind, int turn) {
        switch (turn % 6) {
            case 0 -> shop.stock(kind, 9 + turn);
            case 1 -> shop.job(2 + kind, kind, 2, turn, kind == 1);
            case 2 -> shop.append('1' + kind);
            case 3 -> shop.pass(9 + kind);
            case 4 -> shop.set(2, (turn + kind) % 4);
            default -> shop.undo();
        }
        return 31 * shop.digest() + shop.ifPassed(60 + kind, 4);
    }

    public static void main(String[] args) {
        theClass();
        theConstant();
        theConstructor();
        theMethods();
        theClassesInside();
        namesOfPrivateMethods();
        objectsApart();
        CHECK.end();
    }
}
