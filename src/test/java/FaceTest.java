import java.io.IOException;
import java.lang.reflect.Constructor;
import java.lang.reflect.Field;
import java.lang.reflect.Method;
import java.lang.reflect.Modifier;
import java.nio.file.Files;
import java.nio.file.Path;
import java.util.List;
import java.util.Map;
import java.util.TreeMap;
import java.util.TreeSet;

/** The public face of the document: its constants, constructor and methods, and no more. */
public final class FaceTest {
    private static final Due due = new Due();

    public static void main(String[] args) throws IllegalAccessException, IOException {
        constants();
        methods();
        heads();
        due.end();
    }

    private static void constants() throws IllegalAccessException {
        Map<String, Integer> want = new TreeMap<>();
        String[] words = ("OP_NOP 0 OP_ACQ 1 OP_REL 2 OP_CALL 3 PROCS 8 PROC_CAP 8 CODE_CAP 32 SOLO_LIMIT 512 "
            + "ERR_SEALED -1 ERR_PROC -2 ERR_OP -3 ERR_ARG -4 ERR_FULL -5 ACCEPT 0 REJECT_CYCLE 1 REJECT_LONG 2 "
            + "STEP_OK 0 STEP_BLOCKED 1 STEP_DONE 2 STEP_BAD 3").split(" ");
        for (int i = 0; i < words.length; i += 2) {
            want.put(words[i], Integer.valueOf(words[i + 1]));
        }
        Map<String, Integer> got = new TreeMap<>();
        for (Field field : LockLevelTypes.class.getDeclaredFields()) {
            if (!Modifier.isPrivate(field.getModifiers())) {
                due.same(field.getName(), field.toGenericString(), "public static final int LockLevelTypes." + field.getName());
                got.put(field.getName(), field.getInt(null));
            }
        }
        due.same("constants", got.toString(), want.toString());
    }

    private static void methods() {
        TreeSet<String> want = new TreeSet<>();
        for (String head : ("int emit(int,int,int);boolean setEntry(int,int);int check();boolean restart();int step(int);"
            + "int run(int,int);boolean order(int,int);int level(int);int cycleLock();int soloLength(int);int holder(int);"
            + "int holdCount(int);int frameProc(int);int framePc(int);int waitsFor(int);boolean deadlocked()").split(";")) {
            want.add("public " + head);
        }
        TreeSet<String> got = new TreeSet<>();
        for (Method method : LockLevelTypes.class.getDeclaredMethods()) {
            if (!Modifier.isPrivate(method.getModifiers())) {
                got.add(method.toGenericString().replace("LockLevelTypes.", ""));
            }
        }
        due.same("methods", got.toString(), want.toString());
        for (Constructor<?> constructor : LockLevelTypes.class.getDeclaredConstructors()) {
            due.same("constructor", constructor.toGenericString(), "public LockLevelTypes(int,int)");
        }
        due.same("class", Modifier.toString(LockLevelTypes.class.getModifiers()), "public final");
    }

    /** The public lines of the source are those of the document, in its order and with its names. */
    private static void heads() throws IOException {
        List<String> want = publicLines(Path.of("../shared/DOC.md"));
        List<String> got = publicLines(Path.of("src/main/java/LockLevelTypes.java"));
        due.same("public lines", String.join("\n", got), String.join("\n", want));
    }

    private static List<String> publicLines(Path file) throws IOException {
        return Files.readAllLines(file).stream().map(String::strip).filter(line -> line.startsWith("public "))
            .map(line -> line.replaceFirst(" \\{$", "")).toList();
    }
}
