import java.lang.reflect.Constructor;
import java.lang.reflect.Field;
import java.lang.reflect.Method;
import java.lang.reflect.Modifier;
import java.util.Arrays;
import java.util.Set;
import java.util.TreeSet;
import java.util.stream.Collectors;

/** The public face: just the constants, the constructor and the methods of the document. */
public final class FaceTest {
    private static final Check CHECK = new Check();
    private static final String ARGUMENT = " throws IllegalArgumentException";
    private static final String INDEX = " throws IndexOutOfBoundsException";
    private static final String[] METHODS = {
        "int append(long)", "int load()", "int loadError()", "int loadStatement()",
        "int size(int)" + ARGUMENT, "int cell(int)" + INDEX, "int neighbour(int,int)" + INDEX,
        "int group(int,int)" + INDEX + ",IllegalArgumentException",
        "int groups(int)" + ARGUMENT, "int largest(int)" + ARGUMENT,
        "boolean isBridge(int,int)" + INDEX, "int bridges(int,boolean)" + ARGUMENT,
        "int bridge(int,int,int)" + ARGUMENT,
        "int chain(int,int)" + INDEX + ",IllegalArgumentException",
        "int chains(int)" + ARGUMENT, "boolean isSafe(int)" + ARGUMENT, "int answer(int)" + INDEX,
        "int threats(int)" + ARGUMENT, "int threat(int,int)" + ARGUMENT, "int forced()",
        "int distance(int)" + ARGUMENT,
        "int through(int,int)" + ARGUMENT + ",IndexOutOfBoundsException",
        "int useful(int)" + ARGUMENT, "int shared()",
        "int potential(int,int,int)" + ARGUMENT + ",IndexOutOfBoundsException",
        "int current(int,int)" + ARGUMENT, "float resistance(int,int)" + ARGUMENT,
        "double balance(int)" + ARGUMENT, "int solved()", "int goodMoves()", "int bestMove()",
        "int filled(int)" + ARGUMENT, "int fillings(int,int,int)" + ARGUMENT, "int idle(int)" + ARGUMENT,
        "int moveAt(int)", "int move(int)" + INDEX, "int swap()", "int giveUp()",
        "int put(int,int)" + INDEX + ",IllegalArgumentException", "int setTurn(int)" + ARGUMENT,
        "int turnOver()", "int playForced(int)" + ARGUMENT, "int forcedWinner()", "int forcedRow()",
        "double fullness()", "int writeRow(int)" + INDEX, "int writeCell(int)" + INDEX,
        "int outputByte(int)", "int undo()", "int saveSnapshot(int)" + ARGUMENT,
        "int restoreSnapshot(int)" + ARGUMENT};

    public static void main(String[] args) throws Exception {
        constants();
        constructors();
        methods();
        CHECK.end("FaceTest");
    }

    private static void constants() throws Exception {
        CHECK.same("NONE", -1, HexArbiter.NONE);
        CHECK.same("FULL", -2, HexArbiter.FULL);
        CHECK.same("WRONG", -3, HexArbiter.WRONG);
        CHECK.same("RED", 0, HexArbiter.RED);
        CHECK.same("BLUE", 1, HexArbiter.BLUE);
        Set<String> found = new TreeSet<>();
        for (Field field : HexArbiter.class.getDeclaredFields()) {
            if (!Modifier.isPrivate(field.getModifiers())) {
                found.add(Modifier.toString(field.getModifiers()) + " " + field.getName());
            }
        }
        Set<String> due = new TreeSet<>();
        for (String name : new String[] {"NONE", "FULL", "WRONG", "RED", "BLUE"}) {
            due.add("public static final " + name);
        }
        CHECK.same("the constants", due, found);
    }

    private static void constructors() {
        Constructor<?>[] all = HexArbiter.class.getDeclaredConstructors();
        CHECK.same("one constructor", 1, all.length);
        CHECK.same("without arguments", 0, all[0].getParameterCount());
        CHECK.isTrue("public", Modifier.isPublic(all[0].getModifiers()));
        CHECK.isTrue("a final class", Modifier.isFinal(HexArbiter.class.getModifiers()));
    }

    private static void methods() {
        Set<String> found = new TreeSet<>();
        for (Method method : HexArbiter.class.getDeclaredMethods()) {
            if (!Modifier.isPrivate(method.getModifiers())) {
                CHECK.same(method.getName(), "public", Modifier.toString(method.getModifiers()));
                found.add(signature(method));
            }
        }
        CHECK.same("the methods", new TreeSet<>(Arrays.asList(METHODS)), found);
    }

    private static String signature(Method method) {
        String thrown = names(method.getExceptionTypes());
        return method.getReturnType() + " " + method.getName() + "(" + names(method.getParameterTypes()) + ")"
            + (thrown.isEmpty() ? "" : " throws " + thrown);
    }

    private static String names(Class<?>[] types) {
        return Arrays.stream(types).map(Class::getSimpleName).collect(Collectors.joining(","));
    }
}
