/** The document's terms, part 3: what rows are, texts and their faults, what is undone, draws. */
final class TextsTold {
    private static final int BAD = Bench.BAD, NONE = Bench.NONE;
    private static final String TWELVE = "set 7:0,1,2,3,4,5,6,01,02,03,04,05";

    private TextsTold() {
    }

    static void walk(Page page) {
        rows(page);
        texts(page);
        walls(page);
        orders(page);
        faults(page);
        faultsOfGroups(page);
        faultsOfNames(page);
        undone(page);
        drifts(page);
    }

    private static void due(int got, int want) {
        Bench.due(got, want);
    }

    // ---- rows

    private static int row(int n, int[] groups, long... sets) {
        MeetingGroups x = Bench.of(n, groups);
        Bench.sheet(x, 0, 1, sets);
        return x.what(0, 1, 0, sets.length);
    }

    private static void bit(int bit, boolean is, int n, long... sets) {
        due(row(n, new int[0], sets) >> bit & 1, is ? 1 : 0);
    }

    private static void rows(Page page) {
        page.says("==== 3 WHAT a row of n sets (1 .. 12) is: a set of bits:");
        due(row(3, new int[] {7}, 7), 31);
        due(row(4, new int[0], 1, 2, 3, 4, 5, 6, 7, 8, 9, 10, 11, 12), 0);
        due(row(4, new int[0], 1, 2, 3, 4, 5, 6, 7, 8, 9, 10, 11, 12, 13), BAD);
        due(row(3, new int[0]), BAD);
        page.says("0: any two of it (two alike, too) have something in common;");
        bit(0, true, 3, 3, 6, 5);
        bit(0, true, 3, 1, 1);
        bit(0, false, 3, 3, 6, 1);
        bit(0, false, 3, 1, 6, 3);
        due(row(3, new int[0], 1, 2), 2 + 4);
        due(row(3, new int[0], 1, 6), 2 + 8);
        due(row(3, new int[] {2, 1}, 1, 2), 2 + 4 + 16);
        page.says("1: none is a part of another one of it (one like it, too);");
        bit(1, true, 3, 3, 6, 5);
        bit(1, true, 3, 7);
        bit(1, false, 3, 3, 1);
        bit(1, false, 3, 1, 3);
        bit(1, false, 3, 3, 6, 3);
        page.says("2: all have as many ELEMENTS;");
        bit(2, true, 3, 3, 6, 5);
        bit(2, false, 3, 3, 6, 7);
        bit(2, false, 3, 1, 6, 5);
        page.says("3: each ELEMENT is in as many of them;");
        bit(3, true, 3, 3, 6, 5);
        bit(3, true, 3, 1, 6);
        bit(3, false, 3, 3, 6);
        bit(3, false, 3, 6);
        bit(3, false, 3, 3);
        bit(3, false, 4, 3, 6, 5);
        page.says("4: they are just THE GROUPS, in any order, each once.");
        int[] groups = {3, 5, 6};
        due(row(3, groups, 6, 3, 5) & 16, 16);
        due(row(3, groups, 6, 3) & 16, 0);
        due(row(3, groups, 6, 3, 5, 3) & 16, 0);
        due(row(3, groups, 6, 3, 3) & 16, 0);
        due(row(3, groups, 5, 5, 6) & 16, 0);
        due(row(3, groups, 6, 3, 7) & 16, 0);
        due(row(3, groups, 6, 3, 5, 7) & 16, 0);
    }

    // ---- texts

    private static void tells(String text, int n, int... groups) {
        MeetingGroups x = Bench.of(6, 32);
        Bench.due("'" + text + "'", Bench.told(x, text), groups.length);
        Bench.due("n of '" + text + "'", x.count(0), n);
        Bench.groups(x, groups);
    }

    private static void fault(String text, int place) {
        Bench.due("'" + text + "'", Bench.told(Bench.of(6, 32), text), -20 - place);
    }

    private static void texts(Page page) {
        page.says("A TEXT tells ELEMENTS and GROUPS: a NAME (letters a .. z in a row) and what belongs to it.");
        tells("majority 3", 3, 3, 5, 6);
        tells("set 7", 7);
        fault("Majority 3", 0);
        fault("blane", 0);
        fault("planez", 0);
        fault("majority", 8);
        MeetingGroups x = new MeetingGroups();
        for (int turn = 0; turn < 2; turn++) {
            due(Bench.told(x, "wall 4,3"), 4);
            due(x.count(0), 7);
        }
        page.says("majority n (a figure 1 .. 5): all sets of n by 2 (cut) and 1 ELEMENTS.");
        tells("majority 1", 1, 1);
        tells("majority 2", 2, 3);
        tells("majority 4", 4, 7, 11, 13, 14);
        tells("majority 5", 5, 7, 11, 13, 14, 19, 21, 22, 25, 26, 28);
        fault("majority 0", 9);
        fault("majority 6", 9);
        page.says("grid w * h (figures 1 .. 4, w h 7 at most):");
        tells("grid 1*1", 1, 1);
        tells("grid 4*1", 4, 15);
        tells("grid 1*4", 4, 15);
        fault("grid 0*1", 5);
        fault("grid 5*1", 5);
        fault("grid 1*0", 7);
        fault("grid 1*5", 7);
        fault("grid 2*4", 7);
        page.says("ELEMENT w y and x is x, y; a row and a column together, row by row, in each column by column.");
        // rows 012, 345; columns 03, 14, 25
        tells("grid 3*2", 6, 7 | 9, 7 | 18, 7 | 36, 56 | 9, 56 | 18, 56 | 36);
        // rows 01, 23, 45; columns 024, 135
        tells("grid 2*3", 6, 3 | 21, 3 | 42, 12 | 21, 12 | 42, 48 | 21, 48 | 42);
    }

    private static void walls(Page page) {
        page.says("wall: 1 to 3 figures 1 .. 4 with , between, 7 together at most:");
        tells("wall 4", 4, 15);
        tells("wall 1,1,1", 3, 7, 6, 4);
        tells("wall 4,2,1", 7, 15 | 16 | 64, 15 | 32 | 64, 48 | 64, 64);
        fault("wall", 4);
        fault("wall 0", 5);
        fault("wall 5", 5);
        fault("wall 1,5", 7);
        fault("wall 11", 6);
        fault("wall 1,1,1,1", 10);
        fault("wall 4,4", 7);
        page.says("rows of ELEMENTS so wide; a row and one ELEMENT of each row below it;");
        tells("wall 2,1", 3, 7, 4);
        tells("wall 1,2", 3, 3, 5, 6);
        tells("wall 3,4", 7, 7 | 8, 7 | 16, 7 | 32, 7 | 64, 120);
        page.says("row by row, all ways, those of the last row changing the fastest.");
        // rows 0, 12, 34
        tells("wall 1,2,2", 5, 1 | 2 | 8, 1 | 2 | 16, 1 | 4 | 8, 1 | 4 | 16, 6 | 8, 6 | 16, 24);
        // rows 0, 123, 45
        tells("wall 1,3,2", 6, 1 | 2 | 16, 1 | 2 | 32, 1 | 4 | 16, 1 | 4 | 32, 1 | 8 | 16, 1 | 8 | 32, 14 | 16, 14 | 32, 48);
        page.says("plane: 7 ELEMENTS, GROUP k is k, k and 1, k and 3 (less 7, if that's 7 or more).");
        tells("plane", 7, 1 | 2 | 8, 2 | 4 | 16, 4 | 8 | 32, 8 | 16 | 64, 16 | 32 | 1, 32 | 64 | 2, 64 | 1 | 4);
        fault("plane 7", 6);
        page.says("set n (a figure 1 .. 7), perhaps : and GROUPS with , between: figures of ELEMENTS in a row.");
        tells("set 1", 1);
        tells("set 1:0", 1, 1);
        tells("set 7:0", 7, 1);
        tells("set 7:6,0,35,21", 7, 64, 1, 40, 6);
        tells("set 7:6543210", 7, 127);
        fault("set 0", 4);
        fault("set 8", 4);
        fault("set 3 01", 6);
        fault("set 3:", 6);
        fault("set 3:01;2", 8);
        fault("set 3:01,", 9);
    }

    private static void orders(Page page) {
        page.says("GROUPS of a majority come in the order of their numbers (as bits);");
        tells("majority 3", 3, 3, 5, 6);
        tells("majority 5", 5, 7, 11, 13, 14, 19, 21, 22, 25, 26, 28);
        page.says("what comes twice in a grid is there once, as it first came.");
        tells("grid 2*1", 2, 3);
        tells("grid 3*1", 3, 7);
        tells("grid 1*2", 2, 3);
        tells("grid 1*3", 3, 7);
    }

    // ---- faults

    private static void faults(Page page) {
        page.says("A FAULT is the first letter (behind blanks) that can't stand there (the end: how many letters there are):");
        fault("majority x", 9);
        fault("majority   x", 11);
        fault("majority 3x", 10);
        fault("majority 3 3", 11);
        fault("grid 2+2", 6);
        fault("wall 1;2", 6);
        fault("plane plane", 6);
        fault("set 3.", 5);
        fault("grid 2*", 7);
        fault("grid 2*  ", 9);
        fault("", 0);
        fault("   ", 3);
        page.says("of a grid the second figure,");
        fault("grid 4*2", 7);
        fault("grid 3 * 3", 9);
        fault("grid 2*4x", 7);
        page.says("of a wall the figure by which they're more than 7;");
        fault("wall 4,4", 7);
        fault("wall 4,2,2", 9);
        fault("wall 4,3, 1", 10);
        fault("wall 1,3,4", 9);
    }

    private static void faultsOfGroups(Page page) {
        page.says("of a GROUP an ELEMENT that it has, or that is none;");
        fault("set 3:00", 7);
        fault("set 3:0,121", 10);
        fault("set 3:3", 6);
        fault("set 3:0,019", 10);
        fault("set 7:07", 7);
        page.says("the first figure of a 13th GROUP;");
        tells(TWELVE, 7, 1, 2, 4, 8, 16, 32, 64, 3, 5, 9, 17, 33);
        fault(TWELVE + ",06", TWELVE.length() + 1);
        fault(TWELVE + " , 0", TWELVE.length() + 3);
        fault(TWELVE + ",", TWELVE.length() + 1);
        page.says("the letter behind a GROUP that came ahead of it.");
        fault("set 3:01,10", 11);
        fault("set 3:01,10,2", 11);
        fault("set 3:01,2,10 ,1", 14);
        fault("set 3:0,0  ", 11);
    }

    private static void faultsOfNames(Page page) {
        page.says("A NAME that is none of these: its first letter;");
        fault("plan", 0);
        fault("planes", 0);
        fault("  walls 1", 2);
        fault("q", 0);
        page.says("that of a wall by which there were more than 12 GROUPS: its first letter, too,");
        fault("wall 1,2,4", 0);
        fault("   wall 1,3,3 ", 3);
        tells("wall 1,4,2", 7, 1 | 2 | 32, 1 | 2 | 64, 1 | 4 | 32, 1 | 4 | 64, 1 | 8 | 32, 1 | 8 | 64, 1 | 16 | 32,
            1 | 16 | 64, 30 | 32, 30 | 64, 96);
        page.says("if all else can stand.");
        fault("wall 1,3,3,", 10);
        fault("wall 1,2,4 x", 11);
        page.says("Blanks count for nothing,");
        tells("  set  3  :  01  ,  2  ", 3, 3, 4);
        tells("set3:01,2", 3, 3, 4);
        tells(" grid 2 * 1 ", 2, 3);
        tells("wall 1 , 2 ", 3, 3, 5, 6);
        page.says("but letters, figures of a GROUP in a row end there.");
        fault("pla ne", 0);
        fault("set 3:0 1", 8);
        fault("set 3:0 1,2", 8);
    }

    // ---- undone

    /** One step, then undone: all is as it had not been. */
    private static void undone(Bench.Call step) {
        Bench.Way ahead = x -> {
            Bench.begin(x, 4, 3, 12);
            Bench.sheet(x, 0, 0, 1, 2, 3, 4);
            x.keep(7, 0, 0, 0);
            x.seed(99);
        };
        Bench.alike(ahead, x -> {
            ahead.on(x);
            step.on(x);
            due(x.count(8), 5);
            due(x.undo(), 4);
        });
    }

    private static void undone(Page page) {
        page.says("UNDONE: the latest of a GROUP told, out, of n told, a PLAN kept, of a TEXT, a turn of a DRIFT, is as it "
            + "had not been");
        undone(x -> x.add(5));
        undone(x -> x.out(3));
        undone(x -> x.size(5));
        undone(x -> x.keep(8, 0, 0, 1));
        undone(x -> x.keep(7, 0, 0, 1));
        undone(x -> Bench.told(x, "plane"));
        undone(x -> x.drift(1));
        page.says("(6 are known, older ones lost):");
        MeetingGroups x = Bench.of(4, 1, 2, 3, 4, 5, 6, 7);
        due(x.count(8), 6);
        for (int left = 5; left >= 0; left--) {
            due(x.undo(), left);
            due(x.count(1), left + 1);
            due(x.group(left, 0), left + 1);
        }
        due(x.undo(), NONE);
        Bench.groups(x, 1);
        page.says("n, GROUPS, PLANS, THE DRAW are as ahead of it, whatever was told since.");
        MeetingGroups y = Bench.of(4, 3);
        Bench.sheet(y, 0, 0, 9, 9, 9);
        y.seed(500);
        y.add(5);
        y.seed(600);
        y.keep(1, 0, 0, 0);
        y.seed(700);
        y.size(7);
        y.seed(800);
        due(y.undo(), 4);
        due(y.count(0), 4);
        due(y.seed(900), 700);
        due(y.undo(), 3);
        due(y.count(7), 0);
        due(y.seed(900), 600);
        due(y.undo(), 2);
        Bench.groups(y, 3);
        due(y.seed(900), 500);
        y.keep(1, 0, 0, 0);
        Bench.told(y, "set 4: 23");
        y.keep(1, 0, 0, 0);
        due(y.plan(1, 0), 1);
        due(y.undo(), 4);
        // the weight belongs to 0011 again
        due(y.plan(1, 0), NONE);
        due(y.undo(), 3);
        due(y.plan(1, 0), 1);
    }

    // ---- draws

    private static void drifts(Page page) {
        page.says("DRIFT by a seed: THE DRAW is a number of 31 bits (1 at first);");
        MeetingGroups x = new MeetingGroups();
        due(x.seed(Integer.MAX_VALUE), 1);
        due(x.seed(0), Integer.MAX_VALUE);
        due(x.seed(-1), BAD);
        page.says("for each turn it becomes the lowest 31 bits of itself times 1103515245 and 12345 more:");
        x.drift(1);
        due(x.seed(1), 12345);
        x.drift(1);
        due(x.seed(1), 1103527590);
        x.drift(2);
        due(x.seed(Integer.MAX_VALUE), 377401575);
        x.drift(1);
        // 2147483648 less 1103515245, and 12345 more
        due(x.seed(1), 1043980748);
        page.says("x is it by 65536 (cut): the set x left over by (2 to the n, less 1), and 1, is out, if it is a GROUP;");
        // 16838, then 5758; by 7 3, 4 are left over; by 15 8
        MeetingGroups y = Bench.of(3, 4, 7);
        due(y.drift(1), 1);
        Bench.groups(y, 7);
        due(y.drift(1), 2);
        Bench.groups(y, 7, 5);
        MeetingGroups z = Bench.of(4, 9);
        due(z.drift(1), 0);
        // 1163074432 by 65536 is 17747 (by one more, 17746), by 7 2 left over
        MeetingGroups three = Bench.of(3, 2);
        three.seed(3);
        due(three.drift(1), 2);
        due(three.seed(3), 1163074432);
        Bench.groups(three, 2, 3);
        page.says("else it comes, if there are less than 12.");
        MeetingGroups eleven = Bench.of(4, 1, 2, 3, 4, 5, 6, 7, 8, 10, 11, 12);
        due(eleven.drift(1), 12);
        due(eleven.group(11, 0), 9);
        MeetingGroups twelve = Bench.of(4, 1, 2, 3, 4, 5, 6, 7, 8, 10, 11, 12, 13);
        due(twelve.drift(1), 12);
        Bench.groups(twelve, 1, 2, 3, 4, 5, 6, 7, 8, 10, 11, 12, 13);
        MeetingGroups full = Bench.of(4, 1, 2, 3, 4, 5, 6, 7, 8, 9, 10, 11, 12);
        due(full.drift(1), 11);
    }
}
