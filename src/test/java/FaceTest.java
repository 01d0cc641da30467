import java.lang.reflect.Constructor;
import java.lang.reflect.Field;
import java.lang.reflect.Method;
import java.lang.reflect.Modifier;
import java.util.Arrays;
import java.util.HashSet;
import java.util.List;
import java.util.Set;
import java.util.TreeSet;

/** The class shows the constants, the constructor and the methods of the document, and nothing more. */
public final class FaceTest {
    private static final Check check = new Check();

    private static final Set<String> CONSTANTS = new TreeSet<>(List.of(
            "NONE=-1", "CONFLICT=-2", "BAD=-3",
            "TRAIT_BASE=8", "MAX_CLASSES=8", "MAX_TRAITS=8", "MAX_SELECTORS=16", "MAX_DEPTH=16",
            "MAX_BODIES=16", "MAX_BODY_LENGTH=16", "MAX_COMPONENTS=16", "STEP_LIMIT=1000",
            "OP_ARG=0", "OP_CONST=1", "OP_ADD=2", "OP_MUL=3", "OP_STORE=4", "OP_ADD_TMP=5",
            "OP_SEND=6", "OP_SUPER=7", "OP_RET=8",
            "KIND_SELF=0", "KIND_SUPER=1", "KIND_SELF_HOME=2", "KIND_SUPER_HOME=3",
            "FIELD_OWNER=0", "FIELD_TRAIT=1", "FIELD_EXCLUDED=2", "FIELD_ALIAS=16",
            "STATUS_NOT_RUN=0", "STATUS_OK=1", "STATUS_DNU=2", "STATUS_CONFLICT=3",
            "STATUS_DEPTH=4", "STATUS_STEPS=5"));

    private static final Set<String> METHODS = new TreeSet<>(List.of(
            "int beginBody[]", "boolean emit[int, int]", "int bodyLength[int]", "int code[int, int]",
            "boolean setSuper[int, int]", "int superOf[int]", "boolean define[int, int, int]",
            "int ownMethod[int, int]", "int use[int, int]", "boolean exclude[int, int]",
            "boolean alias[int, int, int]", "int componentInfo[int, int]", "int provided[int, int]",
            "int lookup[int, int, int]", "int run[int, int, int]", "int runStatus[]"));

    public static void main(String[] args) throws IllegalAccessException {
        constants();
        methods();
        constructor();
        check.end();
    }

    private static void constants() throws IllegalAccessException {
        Set<String> seen = new TreeSet<>();
        for (Field field : TraitFlattener.class.getDeclaredFields()) {
            int modifiers = field.getModifiers();
            if (Modifier.isStatic(modifiers)) {
                check.yes(field.getName() + " is a constant int or long", Modifier.isFinal(modifiers)
                        && (field.getType() == int.class || field.getType() == long.class));
            }
            if (Modifier.isPrivate(modifiers)) {
                continue;
            }
            check.yes(field.getName() + " is a public constant",
                    Modifier.isPublic(modifiers) && Modifier.isStatic(modifiers));
            seen.add(field.getName() + "=" + field.get(null));
        }
        sameSet("constants", seen, CONSTANTS);
    }

    private static void methods() {
        Set<String> seen = new TreeSet<>();
        Set<String> publicNames = new HashSet<>();
        Set<String> privateNames = new HashSet<>();
        for (Method method : TraitFlattener.class.getDeclaredMethods()) {
            if (Modifier.isPrivate(method.getModifiers())) {
                privateNames.add(method.getName());
                continue;
            }
            check.yes(method.getName() + " is public and not static",
                    Modifier.isPublic(method.getModifiers()) && !Modifier.isStatic(method.getModifiers()));
            publicNames.add(method.getName());
            seen.add(method.getReturnType() + " " + method.getName() + names(method.getParameterTypes()));
        }
        sameSet("methods", seen, METHODS);
        privateNames.retainAll(publicNames);
        check.yes("no private method bears a public name: " + privateNames, privateNames.isEmpty());
    }

    private static void constructor() {
        Constructor<?>[] all = TraitFlattener.class.getDeclaredConstructors();
        check.same("number of constructors", all.length, 1);
        check.yes("the constructor is public", Modifier.isPublic(all[0].getModifiers()));
        check.yes("the constructor takes four ints", names(all[0].getParameterTypes()).equals("[int, int, int, int]"));
        check.yes("the class is public and final", Modifier.isPublic(TraitFlattener.class.getModifiers())
                && Modifier.isFinal(TraitFlattener.class.getModifiers()));
        check.same("number of nested classes", TraitFlattener.class.getDeclaredClasses().length, 0);
    }

    private static String names(Class<?>[] types) {
        return Arrays.stream(types).map(Class::getName).toList().toString();
    }

    private static void sameSet(String what, Set<String> got, Set<String> want) {
        check.yes(what + " are " + got + ", due are " + want, got.equals(want));
    }
}
