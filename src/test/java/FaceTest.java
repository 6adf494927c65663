import java.lang.reflect.Constructor;
import java.lang.reflect.Field;
import java.lang.reflect.Member;
import java.lang.reflect.Method;
import java.lang.reflect.Modifier;
import java.util.Arrays;
import java.util.TreeSet;

/** The public face: every constant, the constructor and every method of the document, and nothing else. */
public final class FaceTest {
    private static final Class<?> FACE = WoundWaitLocks.class;
    private static final Due due = new Due("The public face");

    private static final String[] CONSTANTS = {
        "WOUND_WAIT 0", "WAIT_DIE 1", "OP_READ 1", "OP_WRITE 2", "MODE_NONE 0", "MODE_S 1", "MODE_X 2",
        "ST_IDLE 0", "ST_ACTIVE 1", "ST_WAITING 2", "ST_ABORTED 3", "ST_COMMITTED 4",
        "EV_NONE 0", "EV_RESTART 1", "EV_OP 2", "EV_WAIT 3", "EV_DIE 4", "EV_COMMIT 5",
        "F_STATE 0", "F_TIMESTAMP 1", "F_PC 2", "F_ACC 3", "F_ABORTS 4", "F_COMMIT_RANK 5",
        "F_WAIT_ROW 6", "F_WAIT_MODE 7", "F_LENGTH 8",
    };

    private static final String[] METHODS = {
        "boolean setRow[int, int]", "boolean addOp[int, int, int, int]", "int begin[int]", "int step[]",
        "int run[int]", "int txInfo[int, int]", "int holdMode[int, int]", "int rowValue[int]",
        "int queueLength[int]", "int queueAt[int, int]", "int lastTx[]", "int lastWounds[]", "int commits[]",
    };

    public static void main(String[] args) {
        due.holds("public final class WoundWaitLocks", FaceTest::theClass);
        due.holds("public static final int", FaceTest::constants);
        due.holds("public WoundWaitLocks(int policy, int rows, int txs)", FaceTest::constructor);
        due.holds("(every method of the public face, and no other)", FaceTest::methods);
        due.end();
    }

    private static void theClass() {
        due.is("the class's modifiers", FACE.getModifiers(), Modifier.PUBLIC | Modifier.FINAL);
        due.is("nested classes", FACE.getDeclaredClasses().length, 0);
    }

    private static void constructor() {
        Constructor<?>[] made = FACE.getDeclaredConstructors();
        due.is("constructors", made.length, 1);
        due.is("its modifiers", made[0].getModifiers(), Modifier.PUBLIC);
        due.same("its parameters", Arrays.toString(made[0].getParameterTypes()), "[int, int, int]");
    }

    private static boolean isPrivate(Member member) {
        return Modifier.isPrivate(member.getModifiers());
    }

    private static void constants() {
        TreeSet<String> found = new TreeSet<>();
        for (Field field : FACE.getDeclaredFields()) {
            if (!isPrivate(field)) {
                int constant = Modifier.PUBLIC | Modifier.STATIC | Modifier.FINAL;
                due.is("the modifiers of " + field.getName(), field.getModifiers(), constant);
                due.same("the type of " + field.getName(), field.getType().toString(), "int");
                found.add(field.getName() + " " + valueOf(field));
            }
        }
        due.same("the constants", found.toString(), new TreeSet<>(Arrays.asList(CONSTANTS)).toString());
    }

    private static int valueOf(Field constant) {
        try {
            return constant.getInt(null);
        } catch (IllegalAccessException hidden) {
            throw new IllegalStateException(hidden);
        }
    }

    private static void methods() {
        TreeSet<String> found = new TreeSet<>();
        for (Method method : FACE.getDeclaredMethods()) {
            if (!isPrivate(method)) {
                due.is("the modifiers of " + method.getName(), method.getModifiers(), Modifier.PUBLIC);
                String parameters = Arrays.toString(method.getParameterTypes());
                found.add(method.getReturnType() + " " + method.getName() + parameters);
            }
        }
        due.same("the methods", found.toString(), new TreeSet<>(Arrays.asList(METHODS)).toString());
    }
}
