/** The document's terms: answers below 0, part 1 (groups, plans), part 2 (standing, probing). */
final class TermsTold {
    private static final int BAD = Bench.BAD, NOT = Bench.NOT, FULL = Bench.FULL, NONE = Bench.NONE;
    private static final int NULL = Bench.NULL, CAST = Bench.CAST, INDEX = Bench.INDEX, SIZE = Bench.SIZE;

    private TermsTold() {
    }

    static void walk(Page page) {
        answersBelowNought(page);
        refused(page);
        groups(page);
        strength(page);
        choices(page);
        plans(page);
        standing(page);
        probing(page);
    }

    private static void due(int got, int want) {
        Bench.due(got, want);
    }

    private static MeetingGroups of(int n, int... groups) {
        return Bench.of(n, groups);
    }

    private static MeetingGroups busy() {
        return Bench.after(Bench::busy);
    }

    private static MeetingGroups full() {
        return Bench.after(Bench::full);
    }

    private static void ninety(MeetingGroups x) {
        Bench.type(x, "set 3:01" + " ".repeat(82));
    }

    // ---- answers below 0

    private static void answersBelowNought(Page page) {
        page.says("Answers below 0, of several BAD ahead of all others,");
        due(full().add(0), BAD);
        due(full().add(16), BAD);
        due(Bench.after(TermsTold::ninety).type(31), BAD);
        due(of(3).plan(0, 4), BAD);
        due(of(3).load(2), BAD);
        due(of(3, 7).free(-1), BAD);
        due(busy().sheet(4, 0, -1), BAD);
        due(busy().keep(100, 2, 1, -1), BAD);
        due(busy().what(2, 1, -1, 13), BAD);
        due(busy().film(2, 4, -1), BAD);
        due(busy().item(2, 4, -1, 0), BAD);
        due(busy().copy(2, -1, 4, -1, -1), BAD);
        page.says("then the first that a call names:");
        due(full().add(3), NOT);
        due(of(3).keep(1, 0, 0, 0), NULL);
        MeetingGroups none = of(3);
        none.sheet(0, 0, 2);
        due(none.keep(1, 0, 1, 0), CAST);
        due(none.keep(1, 0, 0, 3), INDEX);
        due(busy().keep(1, 0, 0, 5), INDEX);
        due(busy().what(0, 0, 4, 5), INDEX);
        page.says("BAD -1 (a number is not as told, there is no such thing),");
        due(busy().count(9), -1);
        due(busy().type(200), -1);
        due(busy().group(4, 0), -1);
        due(busy().drop(4), -1);
        page.says("NOT -2 (as told),");
        due(busy().add(3), -2);
        due(busy().size(4), -2);
        due(busy().keep(1, 0, 0, 4), -2);
        due(busy().what(0, 0, 4, 1), -2);
        page.says("FULL -3,");
        due(full().add(11), -3);
        due(Bench.after(TermsTold::ninety).type(' '), -3);
        machineFinds(page);
    }

    private static void machineFinds(Page page) {
        page.says("NONE -4 (as told),");
        due(of(3, 7).group(0, 2), -4);
        due(of(3).load(0), -4);
        due(busy().plan(1, 3), -4);
        due(busy().out(1), -4);
        due(new MeetingGroups().undo(), -4);
        due(new MeetingGroups().restore(), -4);
        page.says("CAST -12 (of SHEETS another LANE);");
        due(busy().keep(1, 0, 1, 0), -12);
        due(busy().what(0, 3, 0, 1), -12);
        due(busy().film(1, 2, 0), -12);
        due(busy().item(0, 2, 0, 1), -12);
        due(busy().copy(0, 0, 1, 0, 1), -12);
        page.says("what the machine finds: NULL -11, INDEX -13, SIZE -14");
        due(busy().drop(2), -11);
        due(busy().item(0, 0, 8, 1), -13);
        due(busy().sheet(0, 0, -1), -14);
        page.says("(NULL, CAST, INDEX, SIZE in this order;");
        due(busy().keep(1, 2, 0, -1), NULL);
        due(busy().what(2, 0, -1, 1), NULL);
        due(busy().film(2, 0, -1), NULL);
        due(busy().item(2, 0, -1, 1), NULL);
        due(busy().copy(2, -1, 0, 0, -1), NULL);
        due(busy().copy(0, -1, 2, 0, -1), NULL);
        due(busy().keep(1, 0, 1, -1), CAST);
        due(busy().what(0, 1, -1, 1), CAST);
        due(busy().film(0, 1, -1), CAST);
        due(busy().item(0, 1, -1, 1), CAST);
        due(busy().copy(0, -1, 1, -1, -1), CAST);
        page.says("INDEX also where no item is taken, if i, j is below 0, or above how many there are).");
        due(busy().copy(0, -1, 0, 0, 0), INDEX);
        due(busy().copy(0, 9, 0, 0, 0), INDEX);
        due(busy().copy(0, 0, 0, -1, 0), INDEX);
        due(busy().copy(0, 0, 0, 9, 0), INDEX);
        due(busy().copy(0, 8, 0, 8, 0), 0);
        MeetingGroups none = of(3);
        none.sheet(0, 0, 2);
        due(none.film(0, 0, -1), INDEX);
        due(none.film(0, 0, 3), INDEX);
        due(none.film(0, 0, 2), 0);
        due(none.keep(1, 0, 0, -1), INDEX);
        due(none.keep(1, 0, 0, 3), INDEX);
        due(none.keep(1, 0, 0, 2), NOT);
    }

    // ---- what is refused

    private static void refused(Page page) {
        page.says("What is refused changes nothing,");
        refusedAsks();
        refusedSteps();
        refusedSheets();
        page.says("but as told.");
        MeetingGroups x = busy();
        due(x.type('?'), 13);
        due(x.read(), -20 - 12);
        due(x.type('p'), 1);
        page.says("Sets of ELEMENTS are bits.");
        MeetingGroups y = of(7, 0b1000001);
        due(y.group(0, 0), 65);
        due(y.element(0, 0), 1);
        due(y.element(6, 0), 1);
        due(y.element(1, 0), 0);
        due(y.free(1), 1);
        due(y.probe(65, 0, 0), 0);
        due(y.probe(1, 0, 1), 6);
        due(y.out(65), 0);
        page.says("Fractions are in lowest terms: 0 above, 1 below.");
        // each element is in 3 of the 6; then 25 of 100, 66 and 33 of 165, 0 of 10000000
        due(of(4, 3, 12, 5, 10, 9, 6).load(0), 1);
        due(of(4, 3, 12, 5, 10, 9, 6).load(1), 2);
        due(of(2, 3).stands(5, 0), 1);
        due(of(2, 3).stands(5, 1), 4);
        MeetingGroups z = of(4, 14, 3, 5, 9);
        Bench.sheet(z, 0, 0, 66, 33, 33, 33);
        z.keep(1, 0, 0, 0);
        due(z.plan(1, 0), 3);
        due(z.plan(1, 1), 5);
        due(of(7).stands(3, 0), 0);
        due(of(7).stands(3, 1), 1);
    }

    private static void same(Bench.Call call, int answer) {
        Bench.same(Bench::full, call, answer);
    }

    private static void refusedAsks() {
        same(x -> x.group(12, 0), BAD);
        same(x -> x.element(4, 0), BAD);
        same(x -> x.count(9), BAD);
        same(x -> x.load(2), BAD);
        same(x -> x.plan(100, 0), BAD);
        same(x -> x.plan(1, 0), NONE);
        same(x -> x.standing(5), BAD);
        same(x -> x.stands(11, 0), BAD);
        same(x -> x.free(2), BAD);
        same(x -> x.probe(1, 1, 0), BAD);
    }

    private static void refusedSteps() {
        same(x -> x.add(16), BAD);
        same(x -> x.add(3), NOT);
        same(x -> x.add(11), FULL);
        same(x -> x.out(16), BAD);
        same(x -> x.out(11), NONE);
        same(x -> x.size(8), BAD);
        same(x -> x.size(4), NOT);
        same(x -> x.size(3), NOT);
        same(x -> x.type(31), BAD);
        Bench.same(TermsTold::ninety, x -> x.type('x'), FULL);
        same(x -> x.drift(41), BAD);
        Bench.same(x -> x.seed(3), x -> x.undo(), NONE);
        same(x -> x.seed(-1), BAD);
        Bench.same(x -> x.add(5), x -> x.restore(), NONE);
    }

    private static void refusedSheets() {
        same(x -> x.keep(100, 0, 0, 0), BAD);
        same(x -> x.keep(1, 2, 0, 0), NULL);
        same(x -> x.keep(1, 0, 1, 0), CAST);
        same(x -> x.keep(1, 0, 0, 0), INDEX);
        Bench.sameBusy(x -> x.keep(1, 0, 0, 3), NOT);
        Bench.sameBusy(x -> x.keep(99, 0, 0, 2), NOT);
        Bench.same(x -> x.sheet(0, 0, 1), x -> x.keep(1, 0, 0, 0), NOT);
        same(x -> x.what(0, 0, 0, 13), BAD);
        same(x -> x.what(2, 0, 0, 1), NULL);
        same(x -> x.what(0, 1, 0, 1), CAST);
        same(x -> x.what(0, 0, 8, 1), INDEX);
        same(x -> x.what(0, 0, 4, 1), NOT);
        same(x -> x.film(0, 4, 0), BAD);
        same(x -> x.film(2, 0, 0), NULL);
        same(x -> x.film(0, 1, 0), CAST);
        same(x -> x.film(0, 0, 0), INDEX);
        same(x -> x.sheet(0, 0, 25), BAD);
        same(x -> x.sheet(0, 0, -1), SIZE);
        same(x -> x.drop(4), BAD);
        same(x -> x.drop(2), NULL);
        same(x -> x.item(0, 4, 0, 9), BAD);
        same(x -> x.item(2, 0, 0, 9), NULL);
        same(x -> x.item(0, 1, 0, 9), CAST);
        same(x -> x.item(0, 0, 8, 9), INDEX);
        same(x -> x.copy(0, 0, 4, 0, 1), BAD);
        same(x -> x.copy(2, 0, 0, 0, 1), NULL);
        same(x -> x.copy(0, 0, 1, 0, 1), CAST);
        same(x -> x.copy(0, 0, 0, 1, 8), INDEX);
    }

    // ---- 1

    private static void groups(Page page) {
        page.says("==== 1 ELEMENTS are 0 .. n less 1");
        due(of(4).element(0, 0), 0);
        due(of(4).element(3, 0), 0);
        due(of(4).element(4, 0), BAD);
        due(of(4).element(-1, 0), BAD);
        page.says("(n 1 .. 7; 3 at first).");
        due(new MeetingGroups().count(0), 3);
        due(new MeetingGroups().size(1), 3);
        due(new MeetingGroups().size(7), 3);
        due(new MeetingGroups().size(0), BAD);
        due(new MeetingGroups().size(8), BAD);
        page.says("GROUPS: up to 12 sets of some ELEMENTS,");
        MeetingGroups x = of(4);
        due(x.add(0), BAD);
        due(x.add(16), BAD);
        for (int set = 1; set <= 12; set++) {
            due(x.add(set), set);
        }
        due(x.add(13), FULL);
        page.says("no two alike (none at first),");
        Bench.groups(new MeetingGroups());
        due(x.add(12), NOT);
        due(x.count(1), 12);
        page.says("in the order they came.");
        MeetingGroups y = of(3, 5, 1, 7);
        Bench.groups(y, 5, 1, 7);
        y.out(5);
        y.add(5);
        Bench.groups(y, 1, 7, 5);
        page.says("A GROUP is SUPERFLUOUS, if another one is a part of it.");
        due(of(3, 7, 3, 4).group(0, 1), 1);
        due(of(3, 7, 3, 4).group(1, 1), 0);
        due(of(3, 7, 3, 4).group(2, 1), 0);
        due(of(3, 3, 7).group(1, 1), 1);
        due(of(3, 3, 6).group(0, 1), 0);
        due(of(3, 7).group(0, 1), 0);
    }

    private static void strength(Page page) {
        page.says("COMMON: the least number of ELEMENTS that any two GROUPS, or one and itself, have in common.");
        due(of(4, 15, 7).count(2), 3);
        due(of(5, 7, 28, 31).count(2), 1);
        due(of(5, 31, 28, 7).count(2), 1);
        due(of(7, 127).count(2), 7);
        due(of(7, 64).count(2), 1);
        page.says("They MEET, if that is above 0.");
        due(of(3, 3, 6).count(3), 1);
        due(of(3, 3, 4).count(3), 0);
        page.says("A set HOLDS a GROUP, if that's a part of it.");
        due(of(3, 3).standing(2), 1);
        due(of(3, 3).standing(3), 1);
        due(of(3, 3).probe(3, 0, 0), 0);
        due(of(3, 3).probe(7, 0, 0), 0);
        due(of(3, 3).probe(5, 0, 0), 1);
        page.says("FAULTS: how many ELEMENTS may be any ones, so that all others still HOLD a GROUP: the greatest such number.");
        due(of(5, 3).count(4), 0);
        due(of(5, 3, 4).count(4), 1);
        due(of(7, 1, 2, 4, 8, 16, 32, 64).count(4), 6);
        due(of(7, 127).count(4), 0);
        MeetingGroups five = of(5, 15, 23, 27, 29, 30);
        MeetingGroups six = of(7, 126, 125, 123, 119, 111, 95, 63);
        MeetingGroups four = new MeetingGroups();
        Bench.told(four, "set 7: 2456, 0356, 0146, 0125, 1236, 0234, 1345");
        page.says("MASK: the greatest b that is no more than FAULTS, 2 b and 1 being no more than COMMON.");
        // COMMON, FAULTS are 3, 1; then 5, 1; then 2, 2; then 7, 0
        due(five.count(5), 1);
        due(six.count(5), 1);
        due(four.count(5), 0);
        due(of(7, 127).count(5), 0);
        page.says("BORNE: the greatest b that is no more than FAULTS, b and 1 being no more than COMMON.");
        due(five.count(6), 1);
        due(six.count(6), 1);
        due(four.count(4), 2);
        due(four.count(6), 1);
        due(of(7, 127).count(6), 0);
        page.says("(FAULTS, COMMON, MASK, BORNE: none without GROUPS;");
        for (int what : new int[] {2, 4, 5, 6}) {
            due(of(4).count(what), NONE);
        }
        page.says("MASK, BORNE: none, if they don't MEET.)");
        due(of(3, 1, 2, 4).count(5), NONE);
        due(of(3, 1, 2, 4).count(6), NONE);
        due(of(3, 1, 2, 4).count(4), 2);
        due(of(3, 1, 2, 4).count(2), 0);
    }

    private static void load(MeetingGroups x, int above, int below) {
        due(x.load(0), above);
        due(x.load(1), below);
    }

    private static void choices(Page page) {
        page.says("A CHOICE gives each GROUP a weight of 0 or more, 1 together.");
        // by a weight below 0 on both elements the load would come down to 0
        load(of(2, 3, 1, 2), 1, 2);
        load(of(3, 7), 1, 1);
        page.says("LOAD of an ELEMENT: weights of GROUPS that have it, together; of the CHOICE: that of the ELEMENT with the "
            + "greatest.");
        // elements bear 1, 3, 6, 4 of 7
        MeetingGroups x = kept(of(4, 3, 6, 12), 1, 2, 4);
        due(x.plan(1, 0), 6);
        due(x.plan(1, 1), 7);
        page.says("LEAST LOAD: of all CHOICES (weights being any numbers) the least.");
        load(of(3, 3, 5, 6), 2, 3);
        // 2, 1, 1, 1 by 5; 5, 1, 1, 1, 1, 1, 1 by 11
        load(of(4, 14, 3, 5, 9), 3, 5);
        load(of(7, 63, 65, 66, 68, 72, 80, 96), 6, 11);
        load(of(7, 1, 2, 4, 8, 16, 32, 64), 1, 7);
        // two groups without anything in common bear 1 of 2 each; all groups have one of two elements
        load(of(3, 7, 2, 4), 1, 2);
        load(of(3, 6, 4, 1), 1, 2);
        load(of(4, 6, 13, 11, 8), 1, 2);
        load(of(4, 10, 2, 13, 4), 1, 2);
    }

    private static MeetingGroups kept(MeetingGroups x, long... weights) {
        Bench.sheet(x, 0, 0, weights);
        x.keep(1, 0, 0, 0);
        return x;
    }

    private static void plans(Page page) {
        page.says("PLANS are kept by names 0 .. 99, 4 at most, none at first:");
        MeetingGroups x = of(2, 1, 2);
        Bench.sheet(x, 0, 0, 99, 0, 99, 100, 0, -1);
        due(x.count(7), 0);
        due(x.keep(-1, 0, 0, 0), BAD);
        due(x.keep(100, 0, 0, 0), BAD);
        due(x.keep(0, 0, 0, 0), 1);
        due(x.keep(99, 0, 0, 0), 2);
        due(x.keep(1, 0, 0, 0), 3);
        due(x.keep(2, 0, 0, 0), 4);
        due(x.plan(0, 3), 0);
        due(x.plan(99, 3), 1);
        due(x.keep(3, 0, 0, 0), 4);
        page.says("whole weights 0 .. 99 of GROUPS.");
        due(x.keep(1, 0, 0, 1), 4);
        due(x.keep(1, 0, 0, 2), NOT);
        due(x.keep(1, 0, 0, 4), NOT);
        page.says("The weight of a GROUP that had none as the PLAN was kept is 0;");
        MeetingGroups y = kept(of(3, 1, 2), 1, 3);
        y.add(4);
        y.add(3);
        due(y.plan(1, 0), 3);
        due(y.plan(1, 1), 4);
        page.says("of one that is no GROUP any more it counts for nothing.");
        MeetingGroups z = kept(of(3, 1, 2, 4), 1, 2, 4);
        z.out(4);
        due(z.plan(1, 0), 2);
        due(z.plan(1, 1), 3);
        z.out(1);
        due(z.plan(1, 1), 1);
        page.says("The LOAD of a PLAN: that of the CHOICE that has its weights by all of them together.");
        due(kept(of(3, 1, 2, 4), 1, 2, 4).plan(1, 0), 4);
        due(kept(of(3, 1, 2, 4), 1, 2, 4).plan(1, 1), 7);
        due(kept(of(3, 3, 6), 1, 2).plan(1, 0), 1);
        due(kept(of(3, 3, 6), 1, 2).plan(1, 1), 1);
        plansInTheirOrder(page);
    }

    private static void places(MeetingGroups x, int... due) {
        for (int name = 1; name <= due.length; name++) {
            Bench.due("plan " + name, x.plan(name, 3), due[name - 1]);
        }
    }

    private static void plansInTheirOrder(Page page) {
        page.says("One more than 4: the one that was kept the longest ago is lost.");
        MeetingGroups x = of(2, 3);
        x.sheet(0, 0, 1);
        for (int name = 1; name <= 5; name++) {
            x.keep(name, 0, 0, 0);
        }
        places(x, NONE, 0, 1, 2, 3);
        x.keep(6, 0, 0, 0);
        places(x, NONE, NONE, 0, 1, 2, 3);
        page.says("A PLAN that is kept by a name that is there takes its place as the newest.");
        due(x.keep(4, 0, 0, 0), 4);
        places(x, NONE, NONE, 0, 3, 1, 2);
        x.keep(3, 0, 0, 0);
        places(x, NONE, NONE, 3, 2, 0, 1);
        x.keep(7, 0, 0, 0);
        places(x, NONE, NONE, 2, 1, NONE, 0, 3);
    }

    // ---- 2

    private static void standing(Page page) {
        page.says("==== 2 STANDING k: how many sets of k ELEMENTS HOLD a GROUP.");
        // 1000 alone; 0011 and three with 1000; 0111, 1011 and two with 1000; all
        int[] sets = {0, 1, 4, 4, 1};
        for (int k = 0; k <= 4; k++) {
            due(of(4, 3, 8).standing(k), sets[k]);
        }
        page.says("STANDS by c of 10 (0 .. 10): each ELEMENT fails by c of 10, apart: how likely all others HOLD a GROUP.");
        // 0.7 by 0.7; 0.7 and 0.3 by 0.7
        due(of(3, 3).stands(3, 0), 49);
        due(of(3, 3).stands(3, 1), 100);
        due(of(3, 1, 2).stands(3, 0), 91);
        due(of(3, 1, 2).stands(3, 1), 100);
        due(of(3, 3).stands(0, 0), 1);
        due(of(3, 3).stands(10, 0), 0);
        due(of(3, 3).stands(11, 0), BAD);
        due(of(3, 3).stands(-1, 0), BAD);
        page.says("FREE sets: those that have something in common with each GROUP, and HOLD none.");
        // one of 01 and one of 23
        due(of(4, 3, 12).free(0), 4);
        due(of(3, 3, 5, 6).free(0), 0);
        due(of(3, 7).free(0), 6);
        due(of(3).free(0), 8);
    }

    /** Groups 01, 12, 23 in a row: who asks 1 or 2 first is done by three, who asks 0 or 3 first by four. */
    private static MeetingGroups path() {
        return of(4, 3, 6, 12);
    }

    private static void probing(Page page) {
        page.says("PROBING: some ELEMENTS are known as well, some as failed.");
        due(path().probe(2, 0, 0), 2);
        due(path().probe(0, 2, 0), 2);
        due(path().probe(2, 4, 0), 1);
        page.says("It's over, if those that are well HOLD a GROUP,");
        due(path().probe(3, 0, 0), 0);
        due(path().probe(7, 8, 0), 0);
        due(path().probe(5, 0, 0), 2);
        page.says("or those that are not known as failed don't.");
        due(path().probe(0, 6, 0), 0);
        due(path().probe(8, 6, 0), 0);
        due(path().probe(0, 10, 0), 0);
        due(path().probe(0, 9, 0), 2);
        due(of(3).probe(0, 0, 0), 0);
        page.says("Else one that is not known is probed; it is well, or failed.");
        due(path().probe(1, 4, 1), 1);
        due(path().probe(4, 1, 1), 1);
        due(of(7, 127).probe(126, 0, 1), 0);
        due(of(7, 127).probe(63, 0, 1), 6);
        page.says("WORST: how many probes it takes till it's over, each being the best one, answers the worst ones.");
        due(path().probe(0, 0, 0), 3);
        due(of(7, 96).probe(0, 0, 0), 2);
        due(of(7, 127).probe(0, 0, 0), 7);
        due(of(3, 3, 5, 6).probe(0, 0, 0), 3);
        page.says("NEXT: the least ELEMENT that is a best one to be probed.");
        due(path().probe(0, 0, 1), 1);
        due(path().probe(0, 2, 1), 2);
        due(of(7, 96).probe(0, 0, 1), 5);
        due(of(3, 3, 5, 6).probe(0, 0, 1), 0);
    }
}
