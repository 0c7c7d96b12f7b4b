import java.io.IOException;
import java.lang.reflect.Field;
import java.lang.reflect.Method;
import java.lang.reflect.Modifier;
import java.nio.file.Files;
import java.nio.file.Path;
import java.util.regex.Matcher;
import java.util.regex.Pattern;

/** The document from its first line to its last: each piece of it is quoted, and what it tells is asked. */
public final class DocumentTest {
    private static final int NONE = Bench.NONE, NULL = Bench.NULL, BAD = Bench.BAD;

    public static void main(String[] args) throws Exception {
        Page page = new Page(Path.of("../shared/DOC.md"));
        page.head("# MeetingGroups");
        page.head("## What it is");
        whatItIsOfGroups(page);
        whatItIsOfStanding(page);
        whatItIsOfWhatIsDone(page);
        calls512(page);
        page.head("## The public face");
        face(page);
        page.head("## Terms");
        TermsTold.walk(page);
        TextsTold.walk(page);
        interfaceSays(page);
        PromisesTold.walk(page);
        notPromised(page);
        page.end();
    }

    private static void due(int got, int want) {
        Bench.due(got, want);
    }

    private static MeetingGroups of(int n, int... groups) {
        return Bench.of(n, groups);
    }

    private static MeetingGroups told(String text) {
        MeetingGroups x = new MeetingGroups();
        Bench.told(x, text);
        return x;
    }

    // ---- what it is

    private static void whatItIsOfGroups(Page page) {
        page.says("Groups that always meet: sets of elements of which any two should have some in common;");
        due(told("majority 3").count(3), 1);
        due(of(3, 3, 4).count(3), 0);
        page.says("how many they have in common at least,");
        due(told("majority 3").count(2), 1);
        due(told("majority 4").count(2), 2);
        page.says("which ones are superfluous,");
        due(of(3, 3, 7).group(0, 1), 0);
        due(of(3, 3, 7).group(1, 1), 1);
        page.says("how many elements may fail,");
        due(told("majority 5").count(4), 2);
        due(told("grid 2*3").count(4), 1);
        page.says("how many liars can be masked or borne;");
        // four of five have 3 in common: 2 and 1 are no more; two of a plane's leavings have 2: 1 and 1 are no more
        due(of(5, 15, 23, 27, 29, 30).count(5), 1);
        due(told("set 7: 2456, 0356, 0146, 0125, 1236, 0234, 1345").count(5), 0);
        due(told("set 7: 2456, 0356, 0146, 0125, 1236, 0234, 1345").count(6), 1);
        page.says("the least load, however groups are chosen,");
        due(told("plane").load(0), 3);
        due(told("plane").load(1), 7);
        page.says("and the load of plans that are kept, a few of them;");
        MeetingGroups x = of(2, 1, 2);
        Bench.sheet(x, 0, 0, 1, 3);
        due(x.keep(5, 0, 0, 0), 1);
        due(x.plan(5, 0), 3);
        due(x.plan(5, 1), 4);
        due(x.count(7), 1);
    }

    private static void whatItIsOfStanding(Page page) {
        page.says("how many sets of each size hold a group,");
        due(told("majority 3").standing(2), 3);
        due(told("majority 3").standing(3), 1);
        page.says("the odds that one stands;");
        // 0.9 by 0.9, three ways, less twice the three together: 2.43 less 1.458
        due(told("majority 3").stands(1, 0), 243);
        due(told("majority 3").stands(1, 1), 250);
        page.says("sets that meet all groups without holding one;");
        due(of(4, 3, 12).free(0), 4);
        due(of(4, 3, 12).free(1), 5);
        page.says("the game of probing, element by element, till a group is found whole or there can be none,");
        due(told("majority 3").probe(0, 0, 0), 3);
        due(told("majority 3").probe(3, 0, 0), 0);
        due(told("majority 3").probe(0, 3, 0), 0);
        page.says("from what is known on;");
        due(told("majority 3").probe(1, 0, 0), 2);
        due(told("majority 3").probe(1, 2, 0), 1);
        due(told("majority 3").probe(1, 2, 1), 2);
        page.says("what rows of sets are;");
        MeetingGroups x = told("majority 3");
        Bench.sheet(x, 0, 0, 6, 3, 5);
        due(x.what(0, 0, 0, 3), 31);
    }

    private static void whatItIsOfWhatIsDone(Page page) {
        page.says("groups told, by texts of majorities, grids, walls, planes, by draws, undone;");
        MeetingGroups x = new MeetingGroups();
        due(x.add(5), 1);
        due(Bench.told(x, "majority 3"), 3);
        due(Bench.told(x, "grid 2*2"), 4);
        due(Bench.told(x, "wall 1,2"), 3);
        due(Bench.told(x, "plane"), 7);
        // the draw 1103527590 by 65536 is 16838, by 127 74 left over: 75 comes
        due(x.drift(1), 8);
        due(x.undo(), 5);
        due(x.count(1), 7);
        due(x.undo(), 4);
        due(x.count(1), 3);
        page.says("images;");
        due(x.image(), 1);
        due(x.add(4), 4);
        due(x.restore(), 1);
        due(x.count(1), 3);
        page.says("sheets that may be missing.");
        due(x.film(1, 0, 0), NULL);
        due(x.sheet(1, 0, 3), 3);
        due(x.film(1, 0, 0), 3);
        due(x.drop(1), 3);
        due(x.film(1, 0, 0), NULL);
    }

    /** Runs of just 512 calls on an object: the last ones are answered like the first ones. */
    private static void calls512(Page page) {
        page.says("An object is used for at most 512 calls after it has been made;");
        stepsOf512();
        textsOf512();
        drawsOf512();
        plansOf512();
        imagesOf512();
        asksOf512();
        page.free("what later calls answer is free.");
    }

    private static void stepsOf512() {
        MeetingGroups x = new MeetingGroups();
        for (int turn = 0; turn < 255; turn++) {
            due(x.add(1), 1);
            due(x.out(1), 0);
        }
        due(x.count(8), 6);
        due(x.undo(), 5);
    }

    private static void textsOf512() {
        MeetingGroups x = new MeetingGroups();
        for (int turn = 0; turn < 85; turn++) {
            Bench.type(x, "plane");
            due(x.read(), 7);
        }
        due(x.count(8), 6);
        due(x.group(6, 0), 69);
    }

    private static void drawsOf512() {
        MeetingGroups x = new MeetingGroups();
        long draw = 1;
        for (int turn = 0; turn < 511; turn++) {
            x.drift(40);
            for (int t = 0; t < 40; t++) {
                draw = (draw * 1103515245L + 12345L) % (1L << 31);
            }
        }
        due(x.seed(0), (int) draw);
    }

    private static void plansOf512() {
        MeetingGroups x = new MeetingGroups();
        x.add(1);
        x.sheet(0, 0, 24);
        for (int turn = 0; turn < 508; turn++) {
            due(x.keep(turn % 100, 0, 0, turn % 24), Math.min(turn + 1, 4));
        }
        due(x.plan(7, 3), 3);
        due(x.plan(3, 3), NONE);
    }

    private static void imagesOf512() {
        MeetingGroups x = new MeetingGroups();
        for (int turn = 0; turn < 170; turn++) {
            x.image();
            x.drift(3);
            due(x.restore(), 1);
        }
        due(x.count(1), 0);
        due(x.seed(0), 1);
    }

    private static void asksOf512() {
        MeetingGroups x = new MeetingGroups();
        Bench.told(x, "plane");
        for (int turn = 6; turn < 511; turn += 5) {
            due(x.load(1), 7);
            due(x.probe(0, 0, 0), 7);
            due(x.stands(2, 1), 78125);
            due(x.free(0), 0);
            due(x.element(0, 2), 18);
        }
        due(x.group(6, 0), 69);
    }

    // ---- the face

    private static void face(Page page) throws IllegalAccessException {
        page.says("public final class MeetingGroups {");
        int modifiers = MeetingGroups.class.getModifiers();
        due(Modifier.isPublic(modifiers) && Modifier.isFinal(modifiers) ? 1 : 0, 1);
        constants(page, "public static final int BAD = -1, NOT = -2, FULL = -3, NONE = -4, NULL = -11, CAST = -12, "
            + "INDEX = -13, SIZE = -14;");
        page.says("public MeetingGroups();");
        due(MeetingGroups.class.getConstructors().length, 1);
        due(MeetingGroups.class.getConstructors()[0].getParameterCount(), 0);
        String[] calls = {"public int group(int k, int what);", "public int element(int e, int what);",
            "public int count(int what);", "public int load(int what);", "public int plan(int name, int what);",
            "public int standing(int k);", "public int stands(int c, int what);", "public int free(int what);",
            "public int probe(int well, int failed, int what);", "public int add(int set);", "public int out(int set);",
            "public int size(int v);", "public int type(int letter);", "public int read();", "public int drift(int n);",
            "public int undo();", "public int seed(int v);", "public int image();", "public int restore();",
            "public int keep(int name, int sheet, int lane, int i);", "public int what(int sheet, int lane, int i, int n);",
            "public int film(int sheet, int lane, int i);", "public int sheet(int sheet, int lane, int n);",
            "public int drop(int sheet);", "public int item(int sheet, int lane, int i, long v);",
            "public int copy(int from, int i, int to, int j, int n);"};
        for (String call : calls) {
            page.says(call);
            due(isThere(call) ? 1 : 0, 1);
        }
        page.says("}");
        int publics = 0;
        for (Method m : MeetingGroups.class.getDeclaredMethods()) {
            publics += Modifier.isPrivate(m.getModifiers()) ? 0 : 1;
        }
        due(publics, calls.length);
        due(MeetingGroups.class.getFields().length, 8);
    }

    private static void constants(Page page, String line) throws IllegalAccessException {
        page.says(line);
        Matcher each = Pattern.compile("(\\w+) = (-\\d+)").matcher(line);
        while (each.find()) {
            int value = BAD + 1;
            for (Field f : MeetingGroups.class.getFields()) {
                boolean constant = Modifier.isStatic(f.getModifiers()) && Modifier.isFinal(f.getModifiers());
                if (constant && f.getType() == int.class && f.getName().equals(each.group(1))) {
                    value = f.getInt(null);
                }
            }
            Bench.due(each.group(1), value, Integer.parseInt(each.group(2)));
        }
    }

    private static boolean isThere(String call) {
        String name = call.substring("public int ".length(), call.indexOf('('));
        String types = call.substring(call.indexOf('(') + 1, call.indexOf(')')).replaceAll("(int|long) \\w+", "$1");
        for (Method m : MeetingGroups.class.getMethods()) {
            StringBuilder its = new StringBuilder();
            for (Class<?> type : m.getParameterTypes()) {
                its.append(its.length() == 0 ? "" : ", ").append(type.getName());
            }
            if (m.getName().equals(name) && its.toString().equals(types) && m.getReturnType() == int.class) {
                return !Modifier.isStatic(m.getModifiers()) && m.getExceptionTypes().length == 0;
            }
        }
        return false;
    }

    // ---- what the interface says

    private static void interfaceSays(Page page) throws IOException {
        String source = Files.readString(Path.of("src/main/java/MeetingGroups.java")).replaceAll("\\s+(// )?", " ");
        part(page, source, "---- 1 groups.", "group", "element", "count", "load", "plan");
        part(page, source, "---- 2 standing, probing.", "standing", "stands", "free", "probe");
        part(page, source, "---- 3 what is done.", "add", "out", "size", "type", "read", "drift", "undo", "seed", "image",
            "restore");
        part(page, source, "---- sheets 0 .. 3: nothing (at first), or a row of a LANE: 0 bytes, 1 shorts, 2 ints, "
            + "3 longs (all with a sign), of 0 to 24 items.", "keep", "what", "film", "sheet", "drop", "item", "copy");
        sheetsAreSo();
    }

    /** The part's head stands in the class ahead of its calls, in their order, and no other head between them. */
    private static void part(Page page, String source, String head, String... calls) {
        StringBuilder words = new StringBuilder("Ahead of the calls ");
        for (String call : calls) {
            words.append(call.equals(calls[0]) ? "" : ", ").append('`').append(call).append('`');
        }
        page.says(words.append(" the interface says: ").append(head).toString());
        int at = source.indexOf(head.substring(0, head.length() - 1));
        due(at < 0 ? 0 : 1, 1);
        int next = source.indexOf(" ---- ", Math.max(at, 0) + 1);
        for (String call : calls) {
            int found = source.indexOf("public int " + call + "(");
            Bench.due(call, found > at && (next < 0 || found < next) ? 1 : 0, 1);
            at = found;
        }
    }

    private static void sheetsAreSo() {
        MeetingGroups x = new MeetingGroups();
        for (int sheet = 0; sheet < 4; sheet++) {
            due(x.drop(sheet), NULL);
            due(x.sheet(sheet, sheet, 24), 24);
            due(x.sheet(sheet, sheet, 0), 0);
            due(x.sheet(sheet, sheet, 25), BAD);
        }
        due(x.sheet(4, 0, 1), BAD);
        due(x.sheet(-1, 0, 1), BAD);
        due(x.sheet(0, 4, 1), BAD);
        due(x.sheet(0, -1, 1), BAD);
        int[] bits = {8, 16, 32, 64};
        for (int lane = 0; lane < 4; lane++) {
            // the highest bit is the sign, so it's no weight; what is above is cut
            Bench.sheet(x, lane, lane, 1L << bits[lane] - 1, bits[lane] == 64 ? 5 : (1L << bits[lane]) + 5,
                lane == 0 ? 99 : (1L << bits[lane - 1]) + 5);
            due(Bench.weight(x, lane, lane, 0), Bench.NOT);
            due(Bench.weight(x, lane, lane, 1), 5);
            due(Bench.weight(x, lane, lane, 2), lane == 0 ? 99 : Bench.NOT);
        }
    }

    // ---- not promised

    private static void notPromised(Page page) {
        page.head("## Not promised");
        page.free("How the state is held inside the object is free, as are the speed of each call, the text of toString and "
            + "the behaviour of equals and hashCode.");
        page.free("Use of one object from several threads at once is not promised to be safe.");
        page.free("Nothing is promised beyond the answers and state changes described above, and nothing about an object "
            + "after its 512th call.");
    }
}
