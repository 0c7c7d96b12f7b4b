/** The document's promises 1 to 27, each piece of their words. */
final class PromisesTold {
    private static final int BAD = Bench.BAD, NOT = Bench.NOT, FULL = Bench.FULL, NONE = Bench.NONE;
    private static final int NULL = Bench.NULL, CAST = Bench.CAST, INDEX = Bench.INDEX, SIZE = Bench.SIZE;

    private PromisesTold() {
    }

    static void walk(Page page) {
        aNewObject(page);
        group(page);
        element(page);
        count(page);
        load(page);
        plan(page);
        standing(page);
        stands(page);
        free(page);
        probe(page);
        add(page);
        out(page);
        size(page);
        type(page);
        read(page);
        drift(page);
        undo(page);
        seed(page);
        image(page);
        restore(page);
        keep(page);
        what(page);
        film(page);
        sheet(page);
        drop(page);
        item(page);
        copy(page);
    }

    private static void due(int got, int want) {
        Bench.due(got, want);
    }

    private static MeetingGroups of(int n, int... groups) {
        return Bench.of(n, groups);
    }

    private static MeetingGroups busy() {
        return Bench.after(Bench::busy);
    }

    private static void aNewObject(Page page) {
        page.head("## Promise 1: A new object");
        page.says("`MeetingGroups()`: As told.");
        MeetingGroups x = new MeetingGroups();
        due(x.count(0), 3);
        due(x.count(1), 0);
        due(x.count(7), 0);
        due(x.count(8), 0);
        due(x.restore(), NONE);
        due(x.read(), -20);
        due(x.seed(1), 1);
        for (int sheet = 0; sheet < 4; sheet++) {
            due(x.drop(sheet), NULL);
        }
    }

    // ---- 1 groups

    private static void group(Page page) {
        page.head("## Promise 2: group");
        page.says("`int group(int k, int what)`: Of GROUP k (0 on): 0 its set,");
        due(of(5, 7, 28, 4).group(0, 0), 7);
        due(of(5, 7, 28, 4).group(2, 0), 4);
        page.says("1 whether it's SUPERFLUOUS (1, 0),");
        due(of(5, 7, 28, 4).group(0, 1), 1);
        due(of(5, 7, 28, 4).group(1, 1), 1);
        due(of(5, 7, 28, 4).group(2, 1), 0);
        page.says("2 the least that it has in common with another one");
        due(of(5, 7, 30, 15).group(0, 2), 2);
        due(of(5, 7, 30, 15).group(1, 2), 2);
        due(of(5, 7, 30, 15).group(2, 2), 3);
        due(of(5, 7, 24).group(0, 2), 0);
        page.says("(NONE: there is none).");
        due(of(5, 7).group(0, 2), NONE);
        page.says("BAD.");
        due(of(5, 7).group(1, 0), BAD);
        due(of(5, 7).group(-1, 0), BAD);
        due(of(5, 7).group(0, 3), BAD);
        due(of(5, 7).group(0, -1), BAD);
    }

    private static void element(Page page) {
        page.head("## Promise 3: element");
        page.says("`int element(int e, int what)`: Of an ELEMENT: 0 in how many GROUPS it is,");
        due(of(4, 3, 6, 8).element(1, 0), 2);
        due(of(4, 3, 6, 8).element(3, 0), 1);
        page.says("1 which ones (a set of their numbers),");
        due(of(4, 3, 6, 8).element(1, 1), 3);
        due(of(4, 3, 6, 8).element(2, 1), 2);
        due(of(4, 3, 6, 8).element(3, 1), 4);
        page.says("2 how many sets without it HOLD no GROUP, but do with it.");
        // 1: those with 0 or 2, without 3; 3: those of 012 that have neither 01 nor 12
        due(of(4, 3, 6, 8).element(1, 2), 3);
        due(of(4, 3, 6, 8).element(3, 2), 5);
        due(of(4, 3, 6, 8).element(0, 2), 1);
        page.says("BAD.");
        due(of(4, 3).element(4, 0), BAD);
        due(of(4, 3).element(-1, 0), BAD);
        due(of(4, 3).element(0, 3), BAD);
        due(of(4, 3).element(0, -1), BAD);
    }

    private static void count(Page page) {
        page.head("## Promise 4: count");
        page.says("`int count(int what)`: 0 n,");
        due(busy().count(0), 4);
        page.says("1 GROUPS,");
        due(busy().count(1), 4);
        page.says("2 COMMON,");
        due(of(4, 7, 14).count(2), 2);
        page.says("3 whether they MEET (1, 0; without GROUPS 1),");
        due(of(4, 7, 14).count(3), 1);
        due(of(4, 3, 12).count(3), 0);
        due(of(4).count(3), 1);
        page.says("4 FAULTS,");
        due(of(4, 7, 11, 13, 14).count(4), 1);
        page.says("5 MASK,");
        due(of(4, 7, 11, 13, 14).count(5), 0);
        due(of(5, 15, 23, 27, 29, 30).count(5), 1);
        page.says("6 BORNE");
        due(of(4, 7, 11, 13, 14).count(6), 1);
        page.says("(2, 4, 5, 6: NONE),");
        for (int what : new int[] {2, 4, 5, 6}) {
            due(of(4).count(what), NONE);
        }
        page.says("7 PLANS,");
        due(of(4).count(7), 0);
        due(busy().count(7), 4);
        page.says("8 what may be UNDONE.");
        due(new MeetingGroups().count(8), 0);
        due(of(4, 3).count(8), 2);
        due(busy().count(8), 6);
        page.says("BAD.");
        due(busy().count(-1), BAD);
        due(busy().count(9), BAD);
    }

    private static void load(Page page) {
        page.head("## Promise 5: load");
        page.says("`int load(int what)`: LEAST LOAD: above, below.");
        due(of(3, 3, 5, 6).load(0), 2);
        due(of(3, 3, 5, 6).load(1), 3);
        page.says("BAD;");
        due(of(3, 3).load(-1), BAD);
        due(of(3, 3).load(2), BAD);
        page.says("NONE: no GROUPS.");
        due(of(3).load(0), NONE);
        due(of(3).load(1), NONE);
    }

    private static void plan(Page page) {
        MeetingGroups x = of(3, 3, 5, 6);
        Bench.sheet(x, 0, 2, 1, 1, 1, 0, 0, 0);
        x.keep(10, 0, 2, 0);
        x.keep(20, 0, 2, 1);
        x.keep(30, 0, 2, 3);
        page.head("## Promise 6: plan");
        page.says("`int plan(int name, int what)`: Of the PLAN by a name: 0, 1 its LOAD,");
        due(x.plan(10, 0), 2);
        due(x.plan(10, 1), 3);
        // 1, 1, 0: 0 is in both
        due(x.plan(20, 0), 1);
        due(x.plan(20, 1), 1);
        page.says("2 whether that's the LEAST (1, 0),");
        due(x.plan(10, 2), 1);
        due(x.plan(20, 2), 0);
        page.says("3 how many PLANS were kept ahead of it that are still there.");
        due(x.plan(10, 3), 0);
        due(x.plan(20, 3), 1);
        due(x.plan(30, 3), 2);
        x.keep(10, 0, 2, 0);
        due(x.plan(20, 3), 0);
        due(x.plan(10, 3), 2);
        page.says("BAD;");
        due(x.plan(-1, 0), BAD);
        due(x.plan(100, 0), BAD);
        due(x.plan(10, -1), BAD);
        due(x.plan(10, 4), BAD);
        page.says("NONE: there is none;");
        for (int what = 0; what <= 3; what++) {
            due(x.plan(11, what), NONE);
        }
        page.says("(0 to 2) its weights are 0 all.");
        for (int what = 0; what <= 2; what++) {
            due(x.plan(30, what), NONE);
        }
        due(x.plan(30, 3), 1);
    }

    // ---- 2 standing, probing

    private static void standing(Page page) {
        page.head("## Promise 7: standing");
        page.says("`int standing(int k)`: STANDING k.");
        due(of(4, 3, 8).standing(0), 0);
        due(of(4, 3, 8).standing(1), 1);
        due(of(4, 3, 8).standing(2), 4);
        due(of(4, 3, 8).standing(4), 1);
        page.says("BAD: not 0 .. n.");
        due(of(4, 3, 8).standing(-1), BAD);
        due(of(4, 3, 8).standing(5), BAD);
    }

    private static void stands(Page page) {
        page.head("## Promise 8: stands");
        page.says("`int stands(int c, int what)`: STANDS: above, below.");
        due(of(3, 1, 6).stands(4, 0), 93);
        // 0.6 and 0.4 by 0.36: 0.744
        due(of(3, 1, 6).stands(4, 1), 125);
        page.says("BAD.");
        due(of(3, 1).stands(-1, 0), BAD);
        due(of(3, 1).stands(11, 0), BAD);
        due(of(3, 1).stands(4, -1), BAD);
        due(of(3, 1).stands(4, 2), BAD);
    }

    private static void free(Page page) {
        page.head("## Promise 9: free");
        page.says("`int free(int what)`: FREE sets: 0 how many,");
        due(of(4, 3, 6, 12).free(0), 2);
        due(of(3).free(0), 8);
        page.says("1 the least as a number (NONE).");
        due(of(4, 3, 6, 12).free(1), 5);
        due(of(3).free(1), 0);
        due(of(3, 1).free(1), NONE);
        page.says("BAD.");
        due(of(3).free(-1), BAD);
        due(of(3).free(2), BAD);
    }

    private static void probe(Page page) {
        page.head("## Promise 10: probe");
        page.says("`int probe(int well, int failed, int what)`: PROBING, sets being known as well, as failed: 0 WORST,");
        due(of(4, 3, 6, 12).probe(0, 0, 0), 3);
        due(of(4, 3, 6, 12).probe(2, 4, 0), 1);
        due(of(4, 3, 6, 12).probe(4, 2, 0), 1);
        page.says("1 NEXT (NONE: it's over).");
        due(of(4, 3, 6, 12).probe(0, 0, 1), 1);
        due(of(4, 3, 6, 12).probe(2, 4, 1), 0);
        due(of(4, 3, 6, 12).probe(4, 2, 1), 3);
        due(of(4, 3, 6, 12).probe(3, 0, 1), NONE);
        due(of(4, 3, 6, 12).probe(0, 6, 1), NONE);
        page.says("BAD: also, they have something in common.");
        due(of(4, 3).probe(5, 4, 0), BAD);
        due(of(4, 3).probe(-1, 0, 0), BAD);
        due(of(4, 3).probe(16, 0, 0), BAD);
        due(of(4, 3).probe(0, -1, 0), BAD);
        due(of(4, 3).probe(0, 16, 0), BAD);
        due(of(4, 3).probe(0, 0, -1), BAD);
        due(of(4, 3).probe(0, 0, 2), BAD);
    }

    // ---- 3 what is done

    private static void add(Page page) {
        page.head("## Promise 11: add");
        page.says("`int add(int set)`: A set becomes a GROUP: GROUPS then.");
        MeetingGroups x = of(4);
        due(x.add(9), 1);
        due(x.add(15), 2);
        due(x.add(1), 3);
        Bench.groups(x, 9, 15, 1);
        page.says("BAD: it's 0, or has others than ELEMENTS;");
        due(x.add(0), BAD);
        due(x.add(16), BAD);
        due(x.add(17), BAD);
        due(x.add(-1), BAD);
        page.says("NOT: it is one;");
        due(x.add(9), NOT);
        due(x.add(1), NOT);
        page.says("FULL.");
        due(Bench.after(Bench::full).add(11), FULL);
        due(Bench.after(Bench::full).count(1), 12);
    }

    private static void out(Page page) {
        page.head("## Promise 12: out");
        page.says("`int out(int set)`: A set is no GROUP any more: GROUPS then.");
        MeetingGroups x = of(4, 9, 15, 1);
        due(x.out(15), 2);
        Bench.groups(x, 9, 1);
        due(x.out(9), 1);
        Bench.groups(x, 1);
        page.says("BAD;");
        due(x.out(16), BAD);
        due(x.out(-1), BAD);
        due(x.out(0), BAD);
        page.says("NONE: it was none.");
        due(x.out(9), NONE);
        due(x.out(2), NONE);
    }

    private static void size(Page page) {
        page.head("## Promise 13: size");
        page.says("`int size(int v)`: n becomes v: what it was.");
        MeetingGroups x = new MeetingGroups();
        due(x.size(5), 3);
        due(x.size(1), 5);
        due(x.count(0), 1);
        page.says("BAD;");
        due(x.size(0), BAD);
        due(x.size(8), BAD);
        page.says("NOT: it is so, or a GROUP has others.");
        due(x.size(1), NOT);
        due(of(7, 3, 16, 1).size(4), NOT);
        due(of(7, 16, 3, 1).size(4), NOT);
        due(of(7, 3, 1, 16).size(4), NOT);
        due(of(7, 3, 16, 1).size(5), 7);
        MeetingGroups y = of(7, 3, 16);
        y.out(16);
        due(y.size(4), 7);
        due(Bench.after(Bench::full).size(3), NOT);
        due(Bench.after(Bench::full).size(5), 4);
    }

    private static void type(Page page) {
        page.head("## Promise 14: type");
        page.says("`int type(int letter)`: One letter more behind THE TAPE: how many it has.");
        MeetingGroups x = new MeetingGroups();
        String text = "set 7:2,456";
        for (int i = 0; i < text.length(); i++) {
            due(x.type(text.charAt(i)), i + 1);
        }
        due(x.read(), 2);
        Bench.groups(x, 4, 112);
        page.says("BAD: not 32 .. 126;");
        due(x.type(31), BAD);
        due(x.type(127), BAD);
        due(x.type(32), 1);
        due(x.type(126), 2);
        page.says("FULL: 90.");
        for (int i = 3; i <= 90; i++) {
            due(x.type('a'), i);
        }
        due(x.type('a'), FULL);
    }

    private static void read(Page page) {
        page.head("## Promise 15: read");
        page.says("`int read()`: THE TAPE, which is empty then");
        MeetingGroups x = of(4, 9);
        Bench.type(x, "set 5:01");
        due(x.read(), 1);
        due(x.type('s'), 1);
        page.says("(by a FAULT, too),");
        due(x.read(), -20);
        due(x.type('p'), 1);
        page.says("is a TEXT: GROUPS then.");
        Bench.type(x, "lane");
        due(x.read(), 7);
        due(x.count(0), 7);
        due(x.group(6, 0), 69);
        page.says("A FAULT: -20 less its place (all else stays).");
        Bench.alike(Bench::quiet, y -> {
            Bench.quiet(y);
            due(Bench.told(y, "set 4: 0, 1, 23, 012, 5"), -20 - 22);
        });
        page.says("PLANS stay.");
        MeetingGroups z = busy();
        due(z.read(), 2);
        due(z.count(7), 4);
        due(z.plan(99, 3), 3);
        // of 0011, 0010 only the first has a weight
        due(z.plan(99, 0), 1);
        due(z.plan(99, 1), 1);
    }

    private static void drift(Page page) {
        page.head("## Promise 16: drift");
        page.says("`int drift(int n)`: A DRIFT of n turns (1 .. 40;");
        MeetingGroups x = new MeetingGroups();
        due(x.drift(3), 3);
        Bench.groups(x, 4, 5, 6);
        due(of(1).drift(1), 1);
        due(of(1).drift(40), 0);
        page.says("each may be UNDONE,");
        due(x.count(8), 3);
        due(x.undo(), 2);
        Bench.groups(x, 4, 5);
        due(x.undo(), 1);
        Bench.groups(x, 4);
        due(x.undo(), 0);
        due(x.seed(1), 1);
        page.says("one that changes nothing, too):");
        MeetingGroups twelve = new MeetingGroups();
        Bench.told(twelve, "set 4: 0, 1, 01, 2, 02, 12, 012, 3, 13, 013, 23, 023");
        due(twelve.drift(1), 12);
        due(twelve.count(8), 2);
        due(twelve.undo(), 1);
        due(twelve.seed(1), 1);
        due(twelve.count(1), 12);
        page.says("GROUPS then.");
        due(new MeetingGroups().drift(2), 2);
        due(of(3, 4, 5, 1).drift(2), 1);
        page.says("BAD.");
        due(x.drift(0), BAD);
        due(x.drift(41), BAD);
    }

    private static void undo(Page page) {
        page.head("## Promise 17: undo");
        page.says("`int undo()`: UNDONE: how many more may be.");
        MeetingGroups x = of(4, 3, 5);
        due(x.undo(), 2);
        Bench.groups(x, 3);
        due(x.undo(), 1);
        Bench.groups(x);
        due(x.undo(), 0);
        due(x.count(0), 3);
        page.says("NONE: none is known.");
        due(x.undo(), NONE);
        due(x.count(0), 3);
    }

    private static void seed(Page page) {
        page.head("## Promise 18: seed");
        page.says("`int seed(int v)`: THE DRAW becomes v: what it was.");
        MeetingGroups x = new MeetingGroups();
        due(x.seed(377401575), 1);
        due(x.seed(377401575), 377401575);
        // 662824084 by 65536 is 10113, by 7 5 left over
        x.drift(1);
        Bench.groups(x, 6);
        due(x.seed(0), 662824084);
        page.says("BAD: below 0.");
        due(x.seed(-1), BAD);
        due(x.seed(Integer.MIN_VALUE), BAD);
        due(x.seed(0), 0);
    }

    private static void image(Page page) {
        page.head("## Promise 19: image");
        page.says("`int image()`: All but SHEETS, THE TAPE is kept as an IMAGE");
        MeetingGroups x = busy();
        due(x.image(), 1);
        x.drop(0);
        x.item(1, 3, 0, 60);
        x.type(' ');
        x.size(7);
        x.add(64);
        x.seed(5);
        x.sheet(2, 3, 24);
        x.keep(98, 2, 3, 0);
        due(x.restore(), 1);
        due(x.count(0), 4);
        Bench.groups(x, 3, 6, 12, 15);
        due(x.seed(77), 77);
        due(x.plan(98, 3), NONE);
        due(x.plan(7, 3), 0);
        due(x.drop(0), NULL);
        due(x.drop(2), 24);
        due(x.type(' '), 14);
        due(Bench.weight(x, 1, 3, 0), 60);
        page.says("(what may be UNDONE, too): 1.");
        MeetingGroups y = of(4, 3, 5);
        due(y.image(), 1);
        y.drift(20);
        y.restore();
        due(y.count(8), 3);
        due(y.undo(), 2);
        Bench.groups(y, 3);
    }

    private static void restore(Page page) {
        page.head("## Promise 20: restore");
        page.says("`int restore()`: All is as it was then: 1.");
        Bench.Way then = x -> {
            Bench.busy(x);
            x.image();
        };
        Bench.alike(then, x -> {
            then.on(x);
            x.undo();
            x.undo();
            x.drift(7);
            due(x.restore(), 1);
            x.add(1);
            x.seed(4);
            due(x.restore(), 1);
        });
        page.says("NONE: there is none.");
        due(of(4, 3).restore(), NONE);
    }

    // ---- sheets

    private static void keep(Page page) {
        page.head("## Promise 21: keep");
        page.says("`int keep(int name, int sheet, int lane, int i)`: A PLAN is kept by a name:");
        MeetingGroups x = of(3, 1, 2, 4);
        Bench.sheet(x, 1, 2, 100, 1, 2, 4, 99, -1);
        due(x.plan(40, 3), NONE);
        due(x.keep(40, 1, 2, 1), 1);
        due(x.plan(40, 3), 0);
        page.says("weights of all GROUPS, in their order, are items of a SHEET taken as a row of a LANE, from item i on:");
        due(x.plan(40, 0), 4);
        due(x.plan(40, 1), 7);
        x.out(4);
        due(x.plan(40, 1), 3);
        x.out(1);
        x.add(4);
        due(x.plan(40, 1), 3);
        due(x.plan(40, 0), 2);
        x.add(1);
        MeetingGroups twelve = of(4, 1, 2, 3, 4, 5, 6, 7, 8, 9, 10, 11, 12);
        Bench.sheet(twelve, 0, 3, 0, 0, 0, 0, 0, 0, 0, 0, 0, 0, 0, 0, 0, 3, 1, 0, 0, 0, 0, 0, 0, 0, 0, 2);
        // from item 12 on: 3 on 0010, 1 on 0011, 2 on 1100
        due(twelve.keep(1, 0, 3, 12), 1);
        due(twelve.plan(1, 0), 2);
        due(twelve.plan(1, 1), 3);
        page.says("PLANS then.");
        for (int name = 1; name <= 5; name++) {
            due(x.keep(name, 1, 2, 1), Math.min(name + 1, 4));
        }
        page.says("BAD;");
        due(x.keep(-1, 1, 2, 1), BAD);
        due(x.keep(100, 1, 2, 1), BAD);
        due(x.keep(1, 4, 2, 1), BAD);
        due(x.keep(1, -1, 2, 1), BAD);
        due(x.keep(1, 1, 4, 1), BAD);
        due(x.keep(1, 1, -1, 1), BAD);
        page.says("NULL;");
        due(x.keep(1, 0, 2, 1), NULL);
        page.says("CAST;");
        due(x.keep(1, 1, 3, 1), CAST);
        page.says("INDEX;");
        due(x.keep(1, 1, 2, -1), INDEX);
        due(x.keep(1, 1, 2, 4), INDEX);
        page.says("NOT: an item is no such weight,");
        due(x.keep(1, 1, 2, 0), NOT);
        due(x.keep(1, 1, 2, 3), NOT);
        due(x.keep(1, 1, 2, 2), 4);
        page.says("or there are no GROUPS.");
        Bench.told(x, "set 3");
        due(x.keep(1, 1, 2, 1), NOT);
    }

    private static void what(Page page) {
        page.head("## Promise 22: what");
        page.says("`int what(int sheet, int lane, int i, int n)`: WHAT by n items of a SHEET likewise.");
        MeetingGroups x = of(3, 3, 5, 6);
        Bench.sheet(x, 2, 1, 8, 6, 5, 3, 1, 0, -1);
        due(x.what(2, 1, 1, 3), 31);
        due(x.what(2, 1, 1, 2), 7);
        due(x.what(2, 1, 3, 2), 1);
        page.says("BAD;");
        due(x.what(-1, 1, 1, 3), BAD);
        due(x.what(4, 1, 1, 3), BAD);
        due(x.what(2, -1, 1, 3), BAD);
        due(x.what(2, 4, 1, 3), BAD);
        due(x.what(2, 1, 1, 0), BAD);
        due(x.what(2, 1, 1, 13), BAD);
        page.says("NULL;");
        due(x.what(0, 1, 1, 3), NULL);
        page.says("CAST;");
        due(x.what(2, 2, 1, 3), CAST);
        page.says("INDEX;");
        due(x.what(2, 1, -1, 3), INDEX);
        due(x.what(2, 1, 5, 3), INDEX);
        page.says("NOT: an item is no set of some ELEMENTS.");
        due(x.what(2, 1, 0, 3), NOT);
        due(x.what(2, 1, 4, 2), NOT);
        due(x.what(2, 1, 6, 1), NOT);
    }

    private static void film(Page page) {
        page.head("## Promise 23: film");
        page.says("`int film(int sheet, int lane, int i)`: GROUPS, in their order, an item each, come to a SHEET likewise: "
            + "how many.");
        MeetingGroups x = of(7, 70, 3, 21);
        Bench.sheet(x, 3, 0, 9, 9, 9, 9, 9);
        due(x.film(3, 0, 1), 3);
        int[] items = {9, 70, 3, 21, 9};
        for (int i = 0; i < 5; i++) {
            due(Bench.weight(x, 3, 0, i), items[i]);
        }
        MeetingGroups none = of(3);
        none.sheet(0, 0, 1);
        due(none.film(0, 0, 1), 0);
        MeetingGroups y = of(7, 70, 3, 21);
        y.sheet(3, 0, 5);
        page.says("BAD;");
        due(y.film(-1, 0, 0), BAD);
        due(y.film(4, 0, 0), BAD);
        due(y.film(3, -1, 0), BAD);
        due(y.film(3, 4, 0), BAD);
        page.says("NULL;");
        due(y.film(0, 0, 0), NULL);
        page.says("CAST;");
        due(y.film(3, 1, 0), CAST);
        page.says("INDEX.");
        due(y.film(3, 0, -1), INDEX);
        due(y.film(3, 0, 3), INDEX);
    }

    private static void sheet(Page page) {
        page.head("## Promise 24: sheet");
        page.says("`int sheet(int sheet, int lane, int n)`: A SHEET holds a new row of a LANE: n.");
        MeetingGroups x = new MeetingGroups();
        due(x.sheet(0, 2, 3), 3);
        due(x.item(0, 2, 0, 5), 1);
        due(x.item(0, 2, 2, 5), 1);
        due(x.item(0, 2, 3, 5), INDEX);
        due(x.sheet(0, 2, 4), 4);
        due(Bench.weight(x, 0, 2, 0), 0);
        due(Bench.weight(x, 0, 2, 2), 0);
        due(x.sheet(0, 3, 1), 1);
        due(x.item(0, 2, 0, 5), CAST);
        due(x.item(0, 3, 0, 5), 1);
        page.says("BAD: also n above 24;");
        due(x.sheet(0, 2, 25), BAD);
        due(x.sheet(-1, 2, 1), BAD);
        due(x.sheet(4, 2, 1), BAD);
        due(x.sheet(0, -1, 1), BAD);
        due(x.sheet(0, 4, 1), BAD);
        page.says("SIZE: n below 0.");
        due(x.sheet(0, 2, -1), SIZE);
        due(x.drop(0), 1);
    }

    private static void drop(Page page) {
        page.head("## Promise 25: drop");
        page.says("`int drop(int sheet)`: A SHEET holds nothing: how many items it had.");
        MeetingGroups x = busy();
        due(x.drop(0), 8);
        due(x.item(0, 0, 0, 1), NULL);
        due(x.drop(3), 0);
        page.says("BAD;");
        due(x.drop(-1), BAD);
        due(x.drop(4), BAD);
        page.says("NULL.");
        due(x.drop(0), NULL);
        due(x.drop(2), NULL);
    }

    private static void item(Page page) {
        page.head("## Promise 26: item");
        page.says("`int item(int sheet, int lane, int i, long v)`: Item i of a SHEET, taken as a row of a LANE, becomes v,");
        MeetingGroups x = busy();
        due(x.item(0, 0, 7, 44), 1);
        due(x.item(0, 0, 0, 33), 1);
        due(Bench.weight(x, 0, 0, 7), 44);
        due(Bench.weight(x, 0, 0, 0), 33);
        due(Bench.weight(x, 0, 0, 1), 2);
        page.says("its lowest bits: 1.");
        for (int lane = 0; lane < 4; lane++) {
            MeetingGroups y = new MeetingGroups();
            y.sheet(0, lane, 2);
            due(y.item(0, lane, 0, (1L << 32) + 65536 + 256 + 7), 1);
            due(y.item(0, lane, 1, lane == 3 ? 7 : (-1L << (8 << lane)) + 7), 1);
            due(Bench.weight(y, 0, lane, 0), lane == 0 ? 7 : NOT);
            due(Bench.weight(y, 0, lane, 1), 7);
        }
        page.says("BAD;");
        due(x.item(-1, 0, 0, 1), BAD);
        due(x.item(4, 0, 0, 1), BAD);
        due(x.item(0, -1, 0, 1), BAD);
        due(x.item(0, 4, 0, 1), BAD);
        page.says("NULL;");
        due(x.item(2, 0, 0, 1), NULL);
        page.says("CAST;");
        due(x.item(0, 1, 0, 1), CAST);
        page.says("INDEX.");
        due(x.item(0, 0, -1, 1), INDEX);
        due(x.item(0, 0, 8, 1), INDEX);
    }

    private static void items(MeetingGroups x, int sheet, int... weights) {
        for (int i = 0; i < weights.length; i++) {
            Bench.due("item " + i, Bench.weight(x, sheet, 1, i), weights[i]);
        }
    }

    private static MeetingGroups rows() {
        MeetingGroups x = new MeetingGroups();
        Bench.sheet(x, 0, 1, 1, 2, 3, 4, 5);
        Bench.sheet(x, 2, 1, 7, 8, 9);
        return x;
    }

    private static void copy(Page page) {
        page.head("## Promise 27: copy");
        page.says("`int copy(int from, int i, int to, int j, int n)`: n items of a SHEET from i on come to another one");
        MeetingGroups x = rows();
        due(x.copy(0, 3, 2, 1, 2), 2);
        items(x, 2, 7, 4, 5);
        items(x, 0, 1, 2, 3, 4, 5);
        page.says("(or the same) from j on, as if all were taken ahead: n.");
        MeetingGroups up = rows();
        due(up.copy(0, 0, 0, 1, 4), 4);
        items(up, 0, 1, 1, 2, 3, 4);
        MeetingGroups down = rows();
        due(down.copy(0, 1, 0, 0, 4), 4);
        items(down, 0, 2, 3, 4, 5, 5);
        MeetingGroups y = rows();
        y.sheet(3, 2, 5);
        page.says("BAD;");
        due(y.copy(-1, 0, 0, 0, 1), BAD);
        due(y.copy(4, 0, 0, 0, 1), BAD);
        due(y.copy(0, 0, -1, 0, 1), BAD);
        due(y.copy(0, 0, 4, 0, 1), BAD);
        page.says("NULL (either);");
        due(y.copy(1, 0, 0, 0, 1), NULL);
        due(y.copy(0, 0, 1, 0, 1), NULL);
        page.says("CAST: of unlike LANES;");
        due(y.copy(0, 0, 3, 0, 1), CAST);
        due(y.copy(3, 0, 0, 0, 1), CAST);
        page.says("INDEX (n below 0, too).");
        due(y.copy(0, 0, 2, 0, 4), INDEX);
        due(y.copy(2, 0, 0, 0, 4), INDEX);
        due(y.copy(0, -1, 2, 0, 1), INDEX);
        due(y.copy(0, 0, 2, -1, 1), INDEX);
        due(y.copy(0, 5, 2, 0, 1), INDEX);
        due(y.copy(0, 0, 2, 3, 1), INDEX);
        due(y.copy(0, 1, 2, 1, -1), INDEX);
    }
}
