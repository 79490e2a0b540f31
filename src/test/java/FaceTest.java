import java.lang.reflect.Constructor;
import java.lang.reflect.Field;
import java.lang.reflect.Method;
import java.lang.reflect.Modifier;
import java.util.Arrays;
import java.util.Set;
import java.util.TreeSet;

/** The class shows the document's face and nothing else, and keeps the rules of LANGUAGE.md on members. */
final class FaceTest {
    private static final String[] CONSTANTS = {"NUM=0", "VAR=1", "ADD=2", "SUB=3", "MUL=4", "LT=5", "EQ=6",
        "IF=7", "AMB=8", "FAIL=9", "REQ=10", "LET=11", "LAM=12", "APP=13", "SET=14", "SEQ=15", "EDIT=0",
        "READY=1", "DONE=2", "REFUSED=-1", "EXHAUSTED=0", "SOLUTION=1", "OK=0", "ERR_EMPTY=1", "ERR_EXTRA=2",
        "ERR_INCOMPLETE=3", "ERR_UNBOUND=4", "KIND_NONE=0", "KIND_INT=1", "KIND_CLOSURE=2", "MAX_TOKENS=32"};
    private static final String[] METHODS = {"void reset()", "boolean token(int,int)", "int compile()",
        "int next()", "boolean restart()", "int phase()", "int kind()", "int value()", "int solutionCount()",
        "int failureCount()", "int choiceCount()", "int choiceBit(int)", "int allocCount()", "int tokenCount()",
        "int tokenKind(int)", "int tokenArg(int)"};

    private FaceTest() {
    }

    public static void main(String[] arguments) throws IllegalAccessException {
        Class<?> face = AmbEvaluator.class;
        Checks.due("public and final", face.getModifiers(), Modifier.PUBLIC | Modifier.FINAL);
        Checks.due("nested classes", face.getDeclaredClasses().length, 0);
        Checks.due("no package", face.getPackageName().isEmpty(), true);
        constants(face);
        methods(face);
        Constructor<?>[] constructors = face.getDeclaredConstructors();
        Checks.due("constructors", constructors.length, 1);
        Checks.due("its face", constructors[0].toString().equals("public AmbEvaluator(int,int)"), true);
        Checks.finish();
    }

    private static void constants(Class<?> face) throws IllegalAccessException {
        Set<String> found = new TreeSet<>();
        int fields = 0;
        for (Field field : face.getDeclaredFields()) {
            int modifiers = field.getModifiers();
            if (Modifier.isPublic(modifiers)) {
                found.add(field.getName() + "=" + field.getInt(null));
            } else {
                Checks.due(field.getName() + " is private", Modifier.isPrivate(modifiers), true);
            }
            if (Modifier.isStatic(modifiers)) {
                Checks.due(field.getName() + " is an int constant",
                    Modifier.isFinal(modifiers) && field.getType() == int.class, true);
            } else {
                fields++;
            }
        }
        dueSame("constants", found, CONSTANTS);
        Checks.due("at most forty fields", fields <= 40, true);
    }

    private static void methods(Class<?> face) {
        Set<String> found = new TreeSet<>();
        Set<String> open = new TreeSet<>();
        for (Method method : face.getDeclaredMethods()) {
            if (Modifier.isPublic(method.getModifiers())) {
                String parameters = Arrays.toString(method.getParameterTypes()).replaceAll("[\\[\\] ]", "");
                found.add(method.getReturnType() + " " + method.getName() + "(" + parameters + ")");
                open.add(method.getName());
            }
        }
        for (Method method : face.getDeclaredMethods()) {
            if (!Modifier.isPublic(method.getModifiers())) {
                Checks.due(method + " is private", Modifier.isPrivate(method.getModifiers()), true);
                Checks.due(method + " has a name of its own", open.contains(method.getName()), false);
            }
        }
        dueSame("methods", found, METHODS);
    }

    private static void dueSame(String what, Set<String> found, String[] wanted) {
        Set<String> want = new TreeSet<>(Arrays.asList(wanted));
        if (!found.equals(want)) {
            System.out.println(what + " found: " + found + ", due: " + want);
        }
        Checks.due(what + " as the document has them", found.equals(want), true);
    }
}
