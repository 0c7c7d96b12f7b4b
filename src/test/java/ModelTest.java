import java.math.BigInteger;
import java.util.ArrayList;
import java.util.HashMap;
import java.util.HashSet;
import java.util.LinkedHashMap;
import java.util.LinkedHashSet;
import java.util.List;
import java.util.Map;
import java.util.Random;
import java.util.Set;
import java.util.TreeSet;
import java.util.regex.Matcher;
import java.util.regex.Pattern;

/** Runs of drawn calls, each answered by the class and by a second program that goes other ways. */
public final class ModelTest {
    private static final int BAD = -1, NOT = -2, FULL = -3, NONE = -4, NULL = -11, CAST = -12, INDEX = -13, SIZE = -14;

    /** All that can be undone; never changed, so keeping one is keeping it as it was. */
    private record Known(int n, List<Integer> groups, LinkedHashMap<Integer, Map<Integer, Integer>> plans, int draw) {
    }

    private record Image(Known now, List<Known> past) {
    }

    private static final Map<String, double[]> LOADS = new HashMap<>();
    private static final Set<String> FORMS = forms();

    private Known now = new Known(3, List.of(), new LinkedHashMap<>(), 1);
    private List<Known> past = new ArrayList<>();
    private Image image = null;
    private String tape = "";
    private final Object[] sheets = new Object[4];

    private void step(Known next) {
        past.add(now);
        if (past.size() > 6) {
            past.remove(0);
        }
        now = next;
    }

    private int all() {
        return (1 << now.n) - 1;
    }

    private boolean holds(int set) {
        return now.groups.stream().anyMatch(g -> (set | g) == set);
    }

    // ---- 1

    int group(int k, int what) {
        if (what < 0 || what > 2 || k < 0 || k >= now.groups.size()) {
            return BAD;
        }
        int g = now.groups.get(k);
        if (what == 0) {
            return g;
        }
        List<Integer> others = new ArrayList<>(now.groups);
        others.remove(k);
        if (what == 1) {
            return others.stream().anyMatch(o -> (o | g) == g) ? 1 : 0;
        }
        return others.stream().mapToInt(o -> Integer.bitCount(o & g)).min().orElse(NONE);
    }

    int element(int e, int what) {
        if (what < 0 || what > 2 || e < 0 || e >= now.n) {
            return BAD;
        }
        int answer = 0;
        for (int k = 0; k < now.groups.size() && what < 2; k++) {
            if ((now.groups.get(k) >> e & 1) == 1) {
                answer += what == 0 ? 1 : 1 << k;
            }
        }
        for (int set = 0; set <= all() && what == 2; set++) {
            if ((set >> e & 1) == 0 && !holds(set) && holds(set + (1 << e))) {
                answer++;
            }
        }
        return answer;
    }

    private int common() {
        int least = 99;
        for (int a : now.groups) {
            for (int b : now.groups) {
                least = Math.min(least, Integer.bitCount(a & b));
            }
        }
        return least;
    }

    private int faults() {
        for (int f = now.n; f > 0; f--) {
            boolean any = true;
            for (int set = 0; set <= all(); set++) {
                any &= Integer.bitCount(set) != f || holds(all() - set);
            }
            if (any) {
                return f;
            }
        }
        return 0;
    }

    private int greatest(int times) {
        if (common() == 0) {
            return NONE;
        }
        int b = 0;
        while (b + 1 <= faults() && times * (b + 1) + 1 <= common()) {
            b++;
        }
        return b;
    }

    int count(int what) {
        if (what < 0 || what > 8) {
            return BAD;
        }
        boolean none = now.groups.isEmpty();
        return switch (what) {
            case 0 -> now.n;
            case 1 -> now.groups.size();
            case 2 -> none ? NONE : common();
            case 3 -> none || common() > 0 ? 1 : 0;
            case 4 -> none ? NONE : faults();
            case 5 -> none ? NONE : greatest(2);
            case 6 -> none ? NONE : greatest(1);
            case 7 -> now.plans.size();
            default -> past.size();
        };
    }

    /** The least sum of elements' weights by which each group weighs 1 or more, over all corners; its other side. */
    private double leastLoad() {
        String key = now.n + " " + new TreeSet<>(now.groups);
        return LOADS.computeIfAbsent(key, k -> new double[] {1 / new Corners(now.n, now.groups).least()})[0];
    }

    private static final class Corners {
        private final int n;
        private final List<double[]> limits = new ArrayList<>();
        private double least = Double.MAX_VALUE;

        Corners(int n, List<Integer> groups) {
            this.n = n;
            for (int g : groups) {
                double[] limit = new double[n + 1];
                for (int e = 0; e < n; e++) {
                    limit[e] = g >> e & 1;
                }
                limit[n] = 1;
                limits.add(limit);
            }
            for (int e = 0; e < n; e++) {
                double[] limit = new double[n + 1];
                limit[e] = 1;
                limits.add(limit);
            }
        }

        double least() {
            choose(0, new ArrayList<>());
            return least;
        }

        private void choose(int from, List<double[]> tight) {
            if (tight.size() == n) {
                look(tight);
                return;
            }
            for (int i = from; i < limits.size(); i++) {
                double[] rest = reduced(limits.get(i), tight);
                if (rest != null) {
                    tight.add(rest);
                    choose(i + 1, tight);
                    tight.remove(tight.size() - 1);
                }
            }
        }

        /** Less the rows that stand, its greatest place being 1; null, if nothing is left. */
        private double[] reduced(double[] limit, List<double[]> tight) {
            double[] row = limit.clone();
            for (double[] t : tight) {
                int p = pivot(t);
                double f = row[p] / t[p];
                for (int c = 0; c <= n; c++) {
                    row[c] -= f * t[c];
                }
                row[p] = 0;
            }
            return Math.abs(row[pivot(row)]) < 1e-7 ? null : row;
        }

        private int pivot(double[] row) {
            int best = 0;
            for (int c = 1; c < n; c++) {
                if (Math.abs(row[c]) > Math.abs(row[best])) {
                    best = c;
                }
            }
            return best;
        }

        private void look(List<double[]> tight) {
            double[] x = new double[n];
            for (int i = n - 1; i >= 0; i--) {
                double[] t = tight.get(i);
                int p = pivot(t);
                double sum = t[n];
                for (int c = 0; c < n; c++) {
                    sum -= c == p ? 0 : t[c] * x[c];
                }
                x[p] = sum / t[p];
            }
            double together = 0;
            for (double v : x) {
                together += v;
            }
            for (double[] l : limits) {
                double sum = 0;
                for (int c = 0; c < n; c++) {
                    sum += l[c] * x[c];
                }
                if (sum < l[n] - 1e-7) {
                    return;
                }
            }
            least = Math.min(least, together);
        }
    }

    /** The fraction with the least number below that is as near as can be. */
    private static int fraction(double value, int what) {
        for (int below = 1; below < 5000; below++) {
            long above = Math.round(value * below);
            if (Math.abs(value - (double) above / below) < 1e-9) {
                return what == 0 ? (int) above : below;
            }
        }
        throw new IllegalStateException("no fraction for " + value);
    }

    int load(int what) {
        if (what != 0 && what != 1) {
            return BAD;
        }
        return now.groups.isEmpty() ? NONE : fraction(leastLoad(), what);
    }

    private static int lowest(long above, long below, int what) {
        BigInteger g = BigInteger.valueOf(above).gcd(BigInteger.valueOf(below));
        return (int) ((what == 0 ? above : below) / g.longValue());
    }

    int plan(int name, int what) {
        if (name < 0 || name > 99 || what < 0 || what > 3) {
            return BAD;
        }
        if (!now.plans.containsKey(name)) {
            return NONE;
        }
        if (what == 3) {
            return new ArrayList<>(now.plans.keySet()).indexOf(name);
        }
        Map<Integer, Integer> weights = now.plans.get(name);
        int together = 0;
        int[] loads = new int[now.n];
        for (int g : now.groups) {
            int w = weights.getOrDefault(g, 0);
            together += w;
            for (int e = 0; e < now.n; e++) {
                loads[e] += w * (g >> e & 1);
            }
        }
        if (together == 0) {
            return NONE;
        }
        int most = 0;
        for (int l : loads) {
            most = Math.max(most, l);
        }
        if (what < 2) {
            return lowest(most, together, what);
        }
        return Math.abs((double) most / together - leastLoad()) < 1e-9 ? 1 : 0;
    }

    // ---- 2

    int standing(int k) {
        if (k < 0 || k > now.n) {
            return BAD;
        }
        int sets = 0;
        for (int set = 0; set <= all(); set++) {
            sets += Integer.bitCount(set) == k && holds(set) ? 1 : 0;
        }
        return sets;
    }

    /** Odds by one element after another, of 10 to the n. */
    private long odds(int e, int well, int c) {
        if (e == now.n) {
            return holds(well) ? 1 : 0;
        }
        return c * odds(e + 1, well, c) + (10 - c) * odds(e + 1, well | 1 << e, c);
    }

    int stands(int c, int what) {
        if (c < 0 || c > 10 || what < 0 || what > 1) {
            return BAD;
        }
        return lowest(odds(0, 0, c), BigInteger.TEN.pow(now.n).longValue(), what);
    }

    int free(int what) {
        if (what != 0 && what != 1) {
            return BAD;
        }
        List<Integer> sets = new ArrayList<>();
        for (int set = 0; set <= all(); set++) {
            int s = set;
            if (!holds(s) && now.groups.stream().allMatch(g -> (g & s) > 0)) {
                sets.add(s);
            }
        }
        return what == 0 ? sets.size() : sets.isEmpty() ? NONE : sets.get(0);
    }

    private int worst(int well, int failed, Map<Integer, Integer> seen) {
        if (holds(well) || !holds(all() - failed)) {
            return 0;
        }
        Integer known = seen.get(well * 128 + failed);
        if (known != null) {
            return known;
        }
        int best = 99;
        for (int e = 0; e < now.n; e++) {
            int bit = 1 << e;
            if (((well | failed) & bit) == 0) {
                best = Math.min(best, 1 + Math.max(worst(well | bit, failed, seen), worst(well, failed | bit, seen)));
            }
        }
        seen.put(well * 128 + failed, best);
        return best;
    }

    int probe(int well, int failed, int what) {
        if (well < 0 || well > all() || failed < 0 || failed > all() || (well & failed) != 0 || what < 0 || what > 1) {
            return BAD;
        }
        Map<Integer, Integer> seen = new HashMap<>();
        int worst = worst(well, failed, seen);
        if (what == 0 || worst == 0) {
            return what == 0 ? worst : NONE;
        }
        for (int e = 0;; e++) {
            int bit = 1 << e;
            if (((well | failed) & bit) == 0
                && Math.max(worst(well | bit, failed, seen), worst(well, failed | bit, seen)) == worst - 1) {
                return e;
            }
        }
    }

    // ---- 3

    private List<Integer> with(int set) {
        List<Integer> groups = new ArrayList<>(now.groups);
        groups.add(set);
        return groups;
    }

    private List<Integer> without(int set) {
        List<Integer> groups = new ArrayList<>(now.groups);
        groups.remove((Integer) set);
        return groups;
    }

    int add(int set) {
        if (set < 1 || set > all()) {
            return BAD;
        }
        if (now.groups.contains(set)) {
            return NOT;
        }
        if (now.groups.size() == 12) {
            return FULL;
        }
        step(new Known(now.n, with(set), now.plans, now.draw));
        return now.groups.size();
    }

    int out(int set) {
        if (set < 1 || set > all()) {
            return BAD;
        }
        if (!now.groups.contains(set)) {
            return NONE;
        }
        step(new Known(now.n, without(set), now.plans, now.draw));
        return now.groups.size();
    }

    int size(int v) {
        if (v < 1 || v > 7) {
            return BAD;
        }
        if (v == now.n || now.groups.stream().anyMatch(g -> g >= 1 << v)) {
            return NOT;
        }
        int before = now.n;
        step(new Known(v, now.groups, now.plans, now.draw));
        return before;
    }

    int type(int letter) {
        if (letter < 32 || letter > 126) {
            return BAD;
        }
        if (tape.length() == 90) {
            return FULL;
        }
        tape += (char) letter;
        return tape.length();
    }

    /** All texts but sets without blanks, each ended by $; a name is one sign: M, G, W, P. */
    private static Set<String> forms() {
        Set<String> forms = new HashSet<>();
        forms.add("P$");
        for (int a = 1; a <= 5; a++) {
            forms.add("M" + a + "$");
        }
        for (int a = 1; a <= 4; a++) {
            forms.add("W" + a + "$");
            for (int b = 1; b <= 4; b++) {
                if (a * b <= 7) {
                    forms.add("G" + a + "*" + b + "$");
                }
                if (a + b <= 7) {
                    forms.add("W" + a + "," + b + "$");
                    // behind 7 a third figure can't stand, but the sign ahead of it can
                    forms.add("W" + a + "," + b + ",?");
                }
                for (int c = 1; c <= 4 && a + b + c <= 7; c++) {
                    forms.add("W" + a + "," + b + "," + c + "$");
                }
            }
            forms.add("W" + a + ",?");
        }
        return forms;
    }

    private int faultOfForm(char name, int from) {
        StringBuilder signs = new StringBuilder().append(name);
        for (int i = from; i <= tape.length(); i++) {
            if (i < tape.length() && tape.charAt(i) == ' ') {
                continue;
            }
            signs.append(i < tape.length() ? tape.charAt(i) == '$' ? '!' : tape.charAt(i) : '$');
            String begun = signs.toString().replace('?', '!');
            if (FORMS.stream().noneMatch(f -> f.startsWith(begun))) {
                return i;
            }
        }
        return -1;
    }

    private static List<Integer> sets(char name, String rest) {
        LinkedHashSet<Integer> sets = new LinkedHashSet<>();
        String[] figures = rest.split("[*,]");
        int a = figures[0].isEmpty() ? 0 : Integer.parseInt(figures[0]);
        if (name == 'M') {
            for (int set = 0; set < 1 << a; set++) {
                if (2 * Integer.bitCount(set) > a && 2 * Integer.bitCount(set) - 2 <= a) {
                    sets.add(set);
                }
            }
        } else if (name == 'P') {
            for (int k = 0; k < 7; k++) {
                sets.add(1 << k | 1 << (k < 6 ? k + 1 : k - 6) | 1 << (k < 4 ? k + 3 : k - 4));
            }
        } else if (name == 'G') {
            int h = Integer.parseInt(figures[1]);
            for (int at = 0; at < a * h; at++) {
                int set = 0;
                for (int other = 0; other < a * h; other++) {
                    set |= other / a == at / a || other % a == at % a ? 1 << other : 0;
                }
                sets.add(set);
            }
        } else {
            int first = 0;
            for (int r = 0; r < figures.length; r++) {
                int wide = Integer.parseInt(figures[r]);
                ways(((1 << wide) - 1) << first, r + 1, first + wide, figures, sets);
                first += wide;
            }
        }
        return new ArrayList<>(sets);
    }

    private static void ways(int set, int row, int first, String[] figures, Set<Integer> into) {
        if (row == figures.length) {
            into.add(set);
            return;
        }
        int wide = Integer.parseInt(figures[row]);
        for (int x = 0; x < wide; x++) {
            ways(set | 1 << first + x, row + 1, first + wide, figures, into);
        }
    }

    private static int elements(char name, String rest) {
        int n = name == 'G' ? 1 : 0;
        for (char c : rest.toCharArray()) {
            if (Character.isDigit(c)) {
                n = name == 'G' ? n * (c - '0') : n + c - '0';
            }
        }
        return name == 'P' ? 7 : n;
    }

    private int behindBlanks(int i) {
        int at = i;
        while (at < tape.length() && tape.charAt(at) == ' ') {
            at++;
        }
        return at;
    }

    private int readSet(int from) {
        int at = behindBlanks(from);
        if (at == tape.length() || "1234567".indexOf(tape.charAt(at)) < 0) {
            return -20 - at;
        }
        int n = tape.charAt(at) - '0';
        List<Integer> groups = new ArrayList<>();
        at = behindBlanks(at + 1);
        String sign = ":";
        while (at < tape.length()) {
            if (!tape.startsWith(sign, at)) {
                return -20 - at;
            }
            sign = ",";
            at = behindBlanks(at + 1);
            Matcher m = Pattern.compile("[0-" + (n - 1) + "]+").matcher(tape).region(at, tape.length());
            if (groups.size() == 12 || !m.lookingAt()) {
                return -20 - at;
            }
            int set = 0;
            for (char c : m.group().toCharArray()) {
                if ((set >> c - '0' & 1) == 1) {
                    return -20 - at;
                }
                set |= 1 << c - '0';
                at++;
            }
            if (at < tape.length() && Character.isDigit(tape.charAt(at))) {
                return -20 - at;
            }
            at = behindBlanks(at);
            if (groups.contains(set)) {
                return -20 - at;
            }
            groups.add(set);
        }
        step(new Known(n, groups, now.plans, now.draw));
        return groups.size();
    }

    private int readTape() {
        Matcher m = Pattern.compile(" *(majority|grid|wall|plane|set)(?![a-z])").matcher(tape);
        if (!m.lookingAt()) {
            return -20 - behindBlanks(0);
        }
        if (m.group(1).equals("set")) {
            return readSet(m.end());
        }
        char name = Character.toUpperCase(m.group(1).charAt(0));
        name = m.group(1).equals("plane") ? 'P' : name;
        int fault = faultOfForm(name, m.end());
        if (fault >= 0) {
            return -20 - fault;
        }
        String rest = tape.substring(m.end()).replace(" ", "");
        List<Integer> sets = sets(name, rest);
        if (sets.size() > 12) {
            return -20 - m.start(1);
        }
        step(new Known(elements(name, rest), sets, now.plans, now.draw));
        return sets.size();
    }

    int read() {
        int answer = readTape();
        tape = "";
        return answer;
    }

    int drift(int n) {
        if (n < 1 || n > 40) {
            return BAD;
        }
        for (int turn = 0; turn < n; turn++) {
            BigInteger next = BigInteger.valueOf(now.draw).multiply(BigInteger.valueOf(1103515245))
                .add(BigInteger.valueOf(12345)).mod(BigInteger.TWO.pow(31));
            int draw = next.intValueExact();
            int set = draw / 65536 % all() + 1;
            List<Integer> groups = now.groups.contains(set) ? without(set)
                : now.groups.size() < 12 ? with(set) : now.groups;
            step(new Known(now.n, groups, now.plans, draw));
        }
        return now.groups.size();
    }

    int undo() {
        if (past.isEmpty()) {
            return NONE;
        }
        now = past.remove(past.size() - 1);
        return past.size();
    }

    int seed(int v) {
        if (v < 0) {
            return BAD;
        }
        int before = now.draw;
        now = new Known(now.n, now.groups, now.plans, v);
        return before;
    }

    int image() {
        image = new Image(now, List.copyOf(past));
        return 1;
    }

    int restore() {
        if (image == null) {
            return NONE;
        }
        now = image.now;
        past = new ArrayList<>(image.past);
        return 1;
    }

    // ---- sheets

    private static int length(Object sheet) {
        return java.lang.reflect.Array.getLength(sheet);
    }

    private static int laneOf(Object sheet) {
        return sheet instanceof byte[] ? 0 : sheet instanceof short[] ? 1 : sheet instanceof int[] ? 2 : 3;
    }

    private int refused(boolean bad, int sheet, int lane, int i, int n) {
        if (bad || sheet < 0 || sheet > 3 || lane < 0 || lane > 3) {
            return BAD;
        }
        if (sheets[sheet] == null) {
            return NULL;
        }
        if (laneOf(sheets[sheet]) != lane) {
            return CAST;
        }
        return i < 0 || n < 0 || (long) i + n > length(sheets[sheet]) ? INDEX : 0;
    }

    private List<Long> items(int sheet, int i, int n) {
        List<Long> items = new ArrayList<>();
        for (int k = 0; k < n; k++) {
            items.add(java.lang.reflect.Array.getLong(sheets[sheet], i + k));
        }
        return items;
    }

    private void put(int sheet, int i, long v) {
        Object to = sheets[sheet];
        if (to instanceof byte[] b) {
            b[i] = (byte) v;
        } else if (to instanceof short[] s) {
            s[i] = (short) v;
        } else if (to instanceof int[] n) {
            n[i] = (int) v;
        } else {
            ((long[]) to)[i] = v;
        }
    }

    int keep(int name, int sheet, int lane, int i) {
        int refused = refused(name < 0 || name > 99, sheet, lane, i, now.groups.size());
        if (refused < 0) {
            return refused;
        }
        List<Long> items = items(sheet, i, now.groups.size());
        if (items.isEmpty() || items.stream().anyMatch(v -> v < 0 || v > 99)) {
            return NOT;
        }
        Map<Integer, Integer> weights = new HashMap<>();
        for (int k = 0; k < items.size(); k++) {
            weights.put(now.groups.get(k), items.get(k).intValue());
        }
        LinkedHashMap<Integer, Map<Integer, Integer>> plans = new LinkedHashMap<>(now.plans);
        plans.remove(name);
        if (plans.size() == 4) {
            plans.remove(plans.keySet().iterator().next());
        }
        plans.put(name, weights);
        step(new Known(now.n, now.groups, plans, now.draw));
        return plans.size();
    }

    int what(int sheet, int lane, int i, int n) {
        int refused = refused(n < 1 || n > 12, sheet, lane, i, n);
        if (refused < 0) {
            return refused;
        }
        List<Long> row = items(sheet, i, n);
        if (row.stream().anyMatch(v -> v < 1 || v > all())) {
            return NOT;
        }
        boolean meet = true;
        boolean parts = false;
        for (int a = 0; a < n; a++) {
            for (int b = 0; b < n; b++) {
                meet &= a == b || (row.get(a) & row.get(b)) > 0;
                parts |= a != b && (row.get(a) | row.get(b)) == row.get(b);
            }
        }
        Set<Integer> wide = new HashSet<>();
        Set<Integer> times = new HashSet<>();
        List<Integer> sorted = new ArrayList<>();
        row.forEach(v -> wide.add(Long.bitCount(v)));
        row.stream().sorted().forEach(v -> sorted.add(v.intValue()));
        for (int e = 0; e < now.n; e++) {
            int bit = e;
            times.add((int) row.stream().filter(v -> (v >> bit & 1) == 1).count());
        }
        boolean same = sorted.equals(new ArrayList<>(new TreeSet<>(now.groups)));
        return (meet ? 1 : 0) + (parts ? 0 : 2) + (wide.size() == 1 ? 4 : 0) + (times.size() == 1 ? 8 : 0)
            + (same ? 16 : 0);
    }

    int film(int sheet, int lane, int i) {
        int refused = refused(false, sheet, lane, i, now.groups.size());
        if (refused < 0) {
            return refused;
        }
        for (int k = 0; k < now.groups.size(); k++) {
            put(sheet, i + k, now.groups.get(k));
        }
        return now.groups.size();
    }

    int sheet(int sheet, int lane, int n) {
        if (sheet < 0 || sheet > 3 || lane < 0 || lane > 3 || n > 24) {
            return BAD;
        }
        if (n < 0) {
            return SIZE;
        }
        sheets[sheet] = lane == 0 ? new byte[n] : lane == 1 ? new short[n] : lane == 2 ? new int[n] : new long[n];
        return n;
    }

    int drop(int sheet) {
        if (sheet < 0 || sheet > 3) {
            return BAD;
        }
        if (sheets[sheet] == null) {
            return NULL;
        }
        int had = length(sheets[sheet]);
        sheets[sheet] = null;
        return had;
    }

    int item(int sheet, int lane, int i, long v) {
        int refused = refused(false, sheet, lane, i, 1);
        if (refused < 0) {
            return refused;
        }
        put(sheet, i, v);
        return 1;
    }

    int copy(int from, int i, int to, int j, int n) {
        if (from < 0 || from > 3 || to < 0 || to > 3) {
            return BAD;
        }
        if (sheets[from] == null || sheets[to] == null) {
            return NULL;
        }
        int refused = refused(false, from, laneOf(sheets[to]), i, n);
        refused = refused == 0 ? refused(false, to, laneOf(sheets[from]), j, n) : refused;
        if (refused < 0) {
            return refused;
        }
        List<Long> taken = items(from, i, n);
        for (int k = 0; k < n; k++) {
            put(to, j + k, taken.get(k));
        }
        return n;
    }

    // ---- drawn calls

    private static final String[] TEXTS = {"majority 3", "majority 5", "grid 2*3", "grid 3*2", "grid 2*2", "wall 1,2,3",
        "wall 1,2,4", "wall 1,3,3", "wall 2,2,2", "wall 1,4,2", "wall 4,3", "plane", "set 4:01,12,23,30", "set 5",
        "set 7:012,234,456,60,135", "set 7:0,1,2,3,4,5,6,10,20,30,40,50", "set 6:0123,2345,0145", "majority 4",
        "set 7:0,1,2,3,4,5,6,10,20,30,40,50,60", "set 5:01,12,23,34,40", "set 3:0,01,012"};
    private static final String SIGNS = " 0123456789,,*::  adegilmnoprstwxy.$?AZ~";

    private final MeetingGroups x = new MeetingGroups();
    private final List<String> run = new ArrayList<>();
    private static int wrong = 0;
    private static int asked = 0;

    private void due(String call, int got, int want) {
        asked++;
        run.add(call + " = " + got);
        if (got != want && wrong < 20) {
            wrong++;
            System.out.println(call + " answered " + got + ", due is " + want + ", after " + run);
        }
    }

    private static int near(Random r, int low, int high) {
        int kind = r.nextInt(60);
        if (kind == 0) {
            return r.nextInt();
        }
        if (kind == 1) {
            return new int[] {Integer.MIN_VALUE, Integer.MAX_VALUE, -1, 1 << 30}[r.nextInt(4)];
        }
        return kind < 6 ? low - 1 + r.nextInt(high - low + 3) : low + r.nextInt(high - low + 1);
    }

    private static String text(Random r) {
        StringBuilder text = new StringBuilder(TEXTS[r.nextInt(TEXTS.length)]);
        int changes = r.nextInt(3) == 0 ? r.nextInt(4) : 0;
        for (int c = 0; c < changes; c++) {
            int at = r.nextInt(text.length() + 1);
            char sign = SIGNS.charAt(r.nextInt(SIGNS.length()));
            int kind = r.nextInt(3);
            if (kind == 0 || at == text.length()) {
                text.insert(at, sign);
            } else if (kind == 1) {
                text.setCharAt(at, sign);
            } else if (text.length() > 1) {
                text.deleteCharAt(at);
            }
        }
        return text.toString();
    }

    private void tell(String text) {
        for (char c : text.toCharArray()) {
            due("type(" + (int) c + ")", x.type(c), type(c));
        }
        due("read() of '" + tape + "'", x.read(), read());
    }

    private void askGroups(Random r) {
        int k = near(r, 0, 11);
        int what = near(r, 0, 2);
        due("group(" + k + ", " + what + ")", x.group(k, what), group(k, what));
        int e = near(r, 0, 6);
        due("element(" + e + ", " + what + ")", x.element(e, what), element(e, what));
        int name = near(r, 0, 5);
        int of = near(r, 0, 3);
        due("plan(" + name + ", " + of + ")", x.plan(name, of), plan(name, of));
        int count = near(r, 0, 8);
        due("count(" + count + ")", x.count(count), count(count));
        int load = near(r, 0, 1);
        due("load(" + load + ")", x.load(load), load(load));
    }

    private void askStanding(Random r) {
        int k = near(r, 0, 7);
        due("standing(" + k + ")", x.standing(k), standing(k));
        int c = near(r, 0, 10);
        int what = near(r, 0, 1);
        due("stands(" + c + ", " + what + ")", x.stands(c, what), stands(c, what));
        due("free(" + what + ")", x.free(what), free(what));
        int well = r.nextInt(3) == 0 ? 0 : near(r, 0, all()) & near(r, 0, 127);
        int failed = r.nextInt(3) == 0 ? 0 : near(r, 0, all()) & (r.nextInt(9) == 0 ? -1 : ~well);
        due("probe(" + well + ", " + failed + ", " + what + ")", x.probe(well, failed, what), probe(well, failed, what));
    }

    private void doGroups(Random r) {
        int set = r.nextInt(4) == 0 && !now.groups.isEmpty() ? now.groups.get(r.nextInt(now.groups.size()))
            : near(r, 0, all());
        if (r.nextInt(3) > 0) {
            due("add(" + set + ")", x.add(set), add(set));
        } else {
            due("out(" + set + ")", x.out(set), out(set));
        }
    }

    private void doRest(Random r) {
        switch (r.nextInt(9)) {
            case 0 -> {
                int v = near(r, 1, 7);
                due("size(" + v + ")", x.size(v), size(v));
            }
            case 1 -> tell(text(r));
            case 2 -> {
                int n = r.nextInt(3) == 0 ? near(r, 1, 40) : near(r, 1, 3);
                due("drift(" + n + ")", x.drift(n), drift(n));
            }
            case 3, 4 -> due("undo()", x.undo(), undo());
            case 5 -> {
                int v = near(r, 0, 1 << 30);
                due("seed(" + v + ")", x.seed(v), seed(v));
            }
            case 6 -> due("image()", x.image(), image());
            case 7 -> due("restore()", x.restore(), restore());
            default -> {
                int letter = near(r, 32, 126);
                due("type(" + letter + ")", x.type(letter), type(letter));
            }
        }
    }

    private int lane(Random r, int sheet) {
        boolean there = sheet >= 0 && sheet < 4 && sheets[sheet] != null;
        return there && r.nextInt(10) > 0 ? laneOf(sheets[sheet]) : near(r, 0, 3);
    }

    private long value(Random r) {
        return switch (r.nextInt(8)) {
            case 0 -> r.nextLong();
            case 1 -> near(r, 0, 130);
            case 2 -> (r.nextLong() << 8) + near(r, 1, 60);
            default -> now.groups.isEmpty() || r.nextBoolean() ? near(r, 1, all())
                : now.groups.get(r.nextInt(now.groups.size()));
        };
    }

    private void doSheets(Random r) {
        int s = near(r, 0, 3);
        int lane = lane(r, s);
        int i = r.nextInt(3) == 0 ? near(r, 0, 24) : near(r, 0, 6);
        int n = near(r, 0, 12);
        switch (r.nextInt(10)) {
            case 0 -> {
                int of = near(r, 0, 24);
                due("sheet(" + s + ", " + lane + ", " + of + ")", x.sheet(s, lane, of), sheet(s, lane, of));
            }
            case 1 -> {
                if (r.nextInt(4) == 0) {
                    due("drop(" + s + ")", x.drop(s), drop(s));
                }
            }
            case 2, 3 -> {
                int name = near(r, 0, 5);
                due("keep(" + name + ", " + s + ", " + lane + ", " + i + ")", x.keep(name, s, lane, i),
                    keep(name, s, lane, i));
            }
            case 4 -> due("film(" + s + ", " + lane + ", " + i + ")", x.film(s, lane, i), film(s, lane, i));
            case 5 -> {
                int to = near(r, 0, 3);
                int j = near(r, 0, 24);
                due("copy(" + s + ", " + i + ", " + to + ", " + j + ", " + n + ")", x.copy(s, i, to, j, n),
                    copy(s, i, to, j, n));
            }
            case 6, 7 -> due("what(" + s + ", " + lane + ", " + i + ", " + n + ")", x.what(s, lane, i, n),
                what(s, lane, i, n));
            default -> {
                for (int k = 0; k < 1 + r.nextInt(12); k++) {
                    long v = value(r);
                    due("item(" + s + ", " + lane + ", " + (i + k) + ", " + v + ")", x.item(s, lane, i + k, v),
                        item(s, lane, i + k, v));
                }
            }
        }
    }

    private void play(Random r) {
        while (run.size() < 440) {
            switch (r.nextInt(8)) {
                case 0 -> askGroups(r);
                case 1 -> askStanding(r);
                case 2, 3 -> doGroups(r);
                case 4 -> doRest(r);
                default -> doSheets(r);
            }
        }
    }

    public static void main(String[] args) {
        for (int seed = 0; seed < 1000 && wrong < 20; seed++) {
            new ModelTest().play(new Random(seed));
        }
        for (int seed = 0; seed < 400 && wrong < 20; seed++) {
            Random r = new Random(seed);
            ModelTest texts = new ModelTest();
            for (int t = 0; t < 16; t++) {
                texts.tell(text(r));
            }
        }
        System.out.println(asked + " answers, " + wrong + " not as due");
        if (wrong != 0) {
            System.exit(1);
        }
    }
}
