import java.lang.management.ManagementFactory;
import java.lang.reflect.Constructor;
import java.lang.reflect.Field;
import java.lang.reflect.Method;
import java.lang.reflect.Modifier;
import java.util.HashSet;
import java.util.Set;
import java.util.TreeSet;

/** The rules of LANGUAGE.md that a run shows: the face (1), that no call throws (7), the room (12). */
public final class RulesTest {
    private static final Set<String> FACE = Set.of("group(int,int)", "element(int,int)", "count(int)", "load(int)",
        "plan(int,int)", "standing(int)", "stands(int,int)", "free(int)", "probe(int,int,int)", "add(int)", "out(int)",
        "size(int)", "type(int)", "read()", "drift(int)", "undo()", "seed(int)", "image()", "restore()",
        "keep(int,int,int,int)", "what(int,int,int,int)", "film(int,int,int)", "sheet(int,int,int)", "drop(int)",
        "item(int,int,int,long)", "copy(int,int,int,int,int)");
    private static final Set<String> CONSTANTS = Set.of("BAD=-1", "NOT=-2", "FULL=-3", "NONE=-4", "NULL=-11", "CAST=-12",
        "INDEX=-13", "SIZE=-14");
    private static final int[] EXTREMES = {Integer.MIN_VALUE, Integer.MIN_VALUE + 1, -129, -1, 0, 1, 3, 7, 12, 24, 31,
        99, 127, 128, 1 << 30, Integer.MAX_VALUE - 1, Integer.MAX_VALUE};
    private static int wrong = 0;

    private static void due(boolean so, String what) {
        if (!so) {
            wrong++;
            System.out.println("not so: " + what);
        }
    }

    private static String signature(Method m) {
        StringBuilder text = new StringBuilder(m.getName()).append('(');
        for (Class<?> type : m.getParameterTypes()) {
            text.append(text.charAt(text.length() - 1) == '(' ? "" : ",").append(type.getName());
        }
        return text.append(')').toString();
    }

    private static void face() throws IllegalAccessException {
        due(Modifier.isFinal(MeetingGroups.class.getModifiers()), "the class is final");
        Set<String> methods = new TreeSet<>();
        for (Method m : MeetingGroups.class.getDeclaredMethods()) {
            if (!Modifier.isPrivate(m.getModifiers())) {
                due(Modifier.isPublic(m.getModifiers()) && m.getReturnType() == int.class, m + " is of the face");
                methods.add(signature(m));
            }
        }
        due(methods.equals(new TreeSet<>(FACE)), "the methods of the face are " + methods);
        Set<String> constants = new TreeSet<>();
        for (Field f : MeetingGroups.class.getDeclaredFields()) {
            if (!Modifier.isPrivate(f.getModifiers())) {
                constants.add(f.getName() + "=" + f.getInt(null));
            }
        }
        due(constants.equals(new TreeSet<>(CONSTANTS)), "the constants are " + constants);
        Constructor<?>[] made = MeetingGroups.class.getDeclaredConstructors();
        due(made.length == 1 && made[0].getParameterCount() == 0, "one constructor");
    }

    private static void namesInside() {
        Set<String> names = new HashSet<>();
        FACE.forEach(m -> names.add(m.substring(0, m.indexOf('('))));
        for (Class<?> c : MeetingGroups.class.getDeclaredClasses()) {
            for (Method m : c.getDeclaredMethods()) {
                due(!names.contains(m.getName()), m + " bears no name of the face");
            }
        }
        for (Method m : MeetingGroups.class.getDeclaredMethods()) {
            due(!Modifier.isPrivate(m.getModifiers()) || !names.contains(m.getName()), m + " bears no name of the face");
        }
    }

    private static Object[] arguments(Method m, int turn) {
        Object[] arguments = new Object[m.getParameterCount()];
        int rest = turn;
        for (int a = 0; a < arguments.length; a++) {
            int value = EXTREMES[rest % EXTREMES.length];
            rest = rest / EXTREMES.length + rest * 7;
            arguments[a] = m.getParameterTypes()[a] == long.class ? (Object) ((long) value << turn % 40) : (Object) value;
        }
        return arguments;
    }

    private static void noneThrows() {
        int turn = 0;
        for (int run = 0; run < 400; run++) {
            MeetingGroups x = new MeetingGroups();
            x.size(1 + run % 7);
            x.drift(1 + run % 40);
            for (int s = 0; s < 4; s++) {
                x.sheet(s, run % 4, run % 25);
            }
            for (int round = 0; round < 15; round++) {
                for (Method m : MeetingGroups.class.getDeclaredMethods()) {
                    if (Modifier.isPublic(m.getModifiers())) {
                        ask(x, m, arguments(m, Math.abs(turn++ % 1000003)));
                    }
                }
            }
        }
    }

    private static void ask(MeetingGroups x, Method m, Object[] arguments) {
        try {
            m.invoke(x, arguments);
        } catch (ReflectiveOperationException e) {
            due(false, m.getName() + java.util.Arrays.toString(arguments) + " threw " + e.getCause());
        }
    }

    private static long room() {
        var bean = (com.sun.management.ThreadMXBean) ManagementFactory.getThreadMXBean();
        return bean.getThreadAllocatedBytes(Thread.currentThread().getId());
    }

    private static void busy(MeetingGroups x) {
        for (char c : "wall 1,2,3".toCharArray()) {
            x.type(c);
        }
        x.read();
        x.sheet(0, 3, 24);
        x.film(0, 3, 0);
        x.keep(1, 0, 3, 0);
        x.plan(1, 2);
        x.load(0);
        x.probe(0, 0, 1);
        x.stands(3, 0);
        x.count(5);
        x.free(1);
        x.drift(40);
        x.undo();
        x.image();
        x.restore();
        x.what(0, 3, 0, 10);
        x.copy(0, 0, 0, 1, 9);
        x.drop(0);
    }

    private static void roomIsKept() {
        busy(new MeetingGroups());
        room();
        long before = room();
        MeetingGroups x = new MeetingGroups();
        long made = room();
        for (int turn = 0; turn < 20; turn++) {
            busy(x);
        }
        long used = room();
        due(made - before < 60000, "a new object takes " + (made - before) + " bytes");
        // the text's characters in busy() are the test's own
        due(used - made < 4000, "500 calls take " + (used - made) + " bytes");
    }

    public static void main(String[] args) throws Exception {
        face();
        namesInside();
        noneThrows();
        roomIsKept();
        System.out.println(wrong == 0 ? "all rules are kept" : wrong + " are not");
        if (wrong != 0) {
            System.exit(1);
        }
    }
}
