import java.lang.reflect.InvocationTargetException;
import java.lang.reflect.Method;
import java.util.ArrayList;
import java.util.Arrays;
import java.util.Comparator;
import java.util.List;

/** What the boundary tests share: they run by name, and two objects are looked at in every way that the face gives. */
final class Bench {
    static final int BAD = -1, NOT = -2, FULL = -3, NONE = -4, NULL = -11, CAST = -12, INDEX = -13, SIZE = -14;
    static final int LEAST = Integer.MIN_VALUE, GREATEST = Integer.MAX_VALUE;
    private static String name = "";
    private static int asked = 0;
    private static int wrong = 0;

    /** Calls that bring a new object to a state. */
    interface Way {
        void on(MeetingGroups x);
    }

    interface Call {
        int on(MeetingGroups x);
    }

    private Bench() {
    }

    static void due(int got, int want) {
        due("", got, want);
    }

    static void due(String call, int got, int want) {
        asked++;
        if (got != want) {
            fails(name + " " + call + " answered " + got + ", due is " + want);
        }
    }

    /** What is asked from here on belongs to this name. */
    static void named(String what) {
        name = what;
    }

    static int asked() {
        return asked;
    }

    static void fails(String why) {
        wrong++;
        System.out.println(why);
    }

    static void end(String ran) {
        System.out.println(ran + ", " + asked + " answers, " + wrong + " not as due");
        if (wrong != 0) {
            System.exit(1);
        }
    }

    /** Runs every test named pNN_.., NN being a promise; each promise from first to last must have one. */
    static void runAll(Class<?> tests, int... promises) {
        Method[] all = tests.getDeclaredMethods();
        Arrays.sort(all, Comparator.comparing(Method::getName));
        boolean[] seen = new boolean[28];
        int ran = 0;
        for (Method m : all) {
            if (m.getName().matches("p\\d\\d_.*")) {
                seen[Integer.parseInt(m.getName().substring(1, 3))] = true;
                run(m);
                ran++;
            }
        }
        for (int promise : promises) {
            if (!seen[promise]) {
                fails("no test of promise " + promise);
            }
        }
        end(ran + " tests");
    }

    private static void run(Method m) {
        named(m.getName());
        int before = asked;
        try {
            m.setAccessible(true);
            m.invoke(null);
        } catch (InvocationTargetException e) {
            fails(name + " threw " + e.getCause());
        } catch (IllegalAccessException e) {
            fails(name + " can't be run");
        }
        if (asked == before) {
            fails(name + " asks nothing");
        }
    }

    static MeetingGroups after(Way way) {
        MeetingGroups x = new MeetingGroups();
        way.on(x);
        return x;
    }

    static MeetingGroups of(int n, int... groups) {
        return after(x -> begin(x, n, groups));
    }

    static void begin(MeetingGroups x, int n, int... groups) {
        x.size(n);
        for (int g : groups) {
            x.add(g);
        }
    }

    static void type(MeetingGroups x, String text) {
        for (int i = 0; i < text.length(); i++) {
            x.type(text.charAt(i));
        }
    }

    static int told(MeetingGroups x, String text) {
        type(x, text);
        return x.read();
    }

    static void sheet(MeetingGroups x, int sheet, int lane, long... items) {
        x.sheet(sheet, lane, items.length);
        for (int i = 0; i < items.length; i++) {
            x.item(sheet, lane, i, items[i]);
        }
    }

    static void groups(MeetingGroups x, int... groups) {
        due("groups", x.count(1), groups.length);
        for (int k = 0; k < groups.length; k++) {
            due("group " + k, x.group(k, 0), groups[k]);
        }
        due("a group more", x.group(groups.length, 0), BAD);
    }

    /** Four groups, four plans, six steps known, an image, sheets of three lanes, one missing. */
    static void quiet(MeetingGroups x) {
        begin(x, 4, 3, 6, 12);
        sheet(x, 0, 0, 1, 2, 3, 4, 100, -1, 7, 0);
        sheet(x, 1, 3, 5, 1L << 32, 9, 15);
        sheet(x, 3, 1);
        x.keep(7, 0, 0, 0);
        x.keep(50, 0, 0, 1);
        x.keep(0, 0, 0, 0);
        x.seed(1234);
        x.image();
        x.add(15);
        x.seed(77);
        x.keep(99, 0, 0, 0);
    }

    /** As quiet, with letters on the tape. */
    static void busy(MeetingGroups x) {
        quiet(x);
        type(x, "set 4: 01, 2");
    }

    /** As busy, with all places of groups taken. */
    static void full(MeetingGroups x) {
        busy(x);
        for (int g : new int[] {1, 2, 4, 8, 5, 9, 10, 7}) {
            x.add(g);
        }
    }

    /** The call is refused, or asks only: its answer is due, and all is as without it. */
    static void same(Way way, Call call, int answer) {
        alike(way, x -> {
            way.on(x);
            due("the call", call.on(x), answer);
        });
    }

    static void sameBusy(Call call, int answer) {
        same(Bench::busy, call, answer);
    }

    /** Objects after either way answer alike, whatever is asked then. */
    static void alike(Way one, Way other) {
        compare("what is asked", asks(after(one)), asks(after(other)));
        compare("undone", undoes(after(one)), undoes(after(other)));
        compare("restored", restores(after(one)), restores(after(other)));
        compare("the tape", reads(after(one)), reads(after(other)));
        for (int s = 0; s < 4; s++) {
            compare("sheet " + s, items(after(one), s), items(after(other), s));
        }
    }

    private static void compare(String what, List<Integer> one, List<Integer> other) {
        asked++;
        if (!one.equals(other)) {
            fails(name + " " + what + ": " + one + " and " + other);
        }
    }

    static List<Integer> asks(MeetingGroups x) {
        List<Integer> a = briefly(x);
        for (int what = 0; what < 3; what++) {
            for (int k = 0; k < 12; k++) {
                a.add(x.group(k, what));
            }
            for (int e = 0; e < 7; e++) {
                a.add(x.element(e, what));
            }
            a.add(x.load(what));
            a.add(x.free(what));
            a.add(x.stands(3, what));
            a.add(x.probe(0, 0, what));
        }
        for (int k = 0; k <= 7; k++) {
            a.add(x.standing(k));
        }
        return a;
    }

    /** n, groups, plans, the draw, how many steps are known. */
    private static List<Integer> briefly(MeetingGroups x) {
        List<Integer> a = new ArrayList<>();
        for (int what = 0; what <= 8; what++) {
            a.add(x.count(what));
        }
        for (int k = 0; k < 12; k++) {
            a.add(x.group(k, 0));
        }
        for (int plan : new int[] {0, 1, 2, 3, 7, 50, 98, 99}) {
            for (int what = 0; what <= 3; what++) {
                a.add(x.plan(plan, what));
            }
        }
        int draw = x.seed(0);
        x.seed(draw);
        a.add(draw);
        return a;
    }

    private static List<Integer> undoes(MeetingGroups x) {
        List<Integer> a = new ArrayList<>();
        for (int turn = 0; turn < 7; turn++) {
            a.add(x.undo());
            a.addAll(briefly(x));
        }
        return a;
    }

    private static List<Integer> restores(MeetingGroups x) {
        List<Integer> a = new ArrayList<>();
        a.add(x.restore());
        a.addAll(briefly(x));
        a.addAll(undoes(x));
        return a;
    }

    /** Each letter more is a fault at its own place, unless the tape is a text with it; so the tape is told apart. */
    private static List<Integer> reads(MeetingGroups x) {
        List<Integer> a = new ArrayList<>();
        a.add(x.type(' '));
        a.add(x.read());
        a.addAll(briefly(x));
        return a;
    }

    /** Items by a plan of two groups apart, the second weight being 1: the load is a by (a and 1). */
    static List<Integer> items(MeetingGroups x, int sheet) {
        List<Integer> a = new ArrayList<>();
        int other = (sheet + 1) % 4;
        x.read();
        for (int lane = 0; lane < 4; lane++) {
            a.add(x.what(sheet, lane, 0, 1));
            if (x.what(sheet, lane, 0, 1) == CAST || x.what(sheet, lane, 0, 1) == NULL) {
                continue;
            }
            x.sheet(other, lane, 2);
            x.item(other, lane, 1, 1);
            told(x, "set 7:0,1");
            for (int i = 0; i < 24; i++) {
                a.add(x.copy(sheet, i, other, 0, 1));
                a.add(x.keep(1, other, lane, 0));
                a.add(x.plan(1, 1) - 1);
                a.add(x.what(sheet, lane, i, 1));
            }
        }
        a.add(x.drop(sheet));
        return a;
    }

    /** Item i of a sheet as a weight 0 .. 99; NOT, if it's none, or as it is refused. */
    static int weight(MeetingGroups x, int sheet, int lane, int i) {
        int other = (sheet + 1) % 4;
        x.sheet(other, lane, 2);
        x.item(other, lane, 1, 1);
        int came = x.copy(sheet, i, other, 0, 1);
        x.read();
        told(x, "set 2:0,1");
        int kept = came < 0 ? came : x.keep(1, other, lane, 0);
        return kept < 0 ? kept : x.plan(1, 1) - 1;
    }
}
