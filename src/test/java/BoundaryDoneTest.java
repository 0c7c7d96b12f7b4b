/** Boundary cases of promises 11 to 14 and 16 to 20, a test for each sentence; busy() is told in Bench. */
public final class BoundaryDoneTest {
    private static final int BAD = Bench.BAD, NOT = Bench.NOT, FULL = Bench.FULL, NONE = Bench.NONE, NULL = Bench.NULL;
    private static final int LEAST = Bench.LEAST, GREATEST = Bench.GREATEST;

    public static void main(String[] args) {
        Bench.runAll(BoundaryDoneTest.class, 11, 12, 13, 14, 16, 17, 18, 19, 20);
    }

    private static void due(int got, int want) {
        Bench.due(got, want);
    }

    private static MeetingGroups of(int n, int... groups) {
        return Bench.of(n, groups);
    }

    private static MeetingGroups busy() {
        return Bench.after(Bench::busy);
    }

    // ---- 11 add

    static void p11_leastSetAndOneBelow() {
        due(busy().add(1), 5);
        Bench.sameBusy(x -> x.add(0), BAD);
        Bench.sameBusy(x -> x.add(-1), BAD);
        Bench.sameBusy(x -> x.add(LEAST), BAD);
    }

    static void p11_greatestSetAndOneAbove() {
        due(of(4).add(15), 1);
        Bench.sameBusy(x -> x.add(16), BAD);
        Bench.sameBusy(x -> x.add(17), BAD);
        Bench.sameBusy(x -> x.add(GREATEST), BAD);
    }

    static void p11_greatestSetOfSevenAndOneAbove() {
        MeetingGroups x = of(7);
        due(x.add(128), BAD);
        due(x.add(127), 1);
        due(x.add(255), BAD);
        Bench.groups(x, 127);
    }

    static void p11_oneElement() {
        MeetingGroups x = of(1);
        due(x.add(2), BAD);
        due(x.add(1), 1);
        due(x.add(1), NOT);
        Bench.groups(x, 1);
    }

    static void p11_itIsOne() {
        Bench.sameBusy(x -> x.add(3), NOT);
        Bench.sameBusy(x -> x.add(15), NOT);
    }

    static void p11_itWasOne() {
        MeetingGroups x = of(3, 1, 2);
        x.out(1);
        due(x.add(1), 2);
        Bench.groups(x, 2, 1);
    }

    static void p11_allPlacesTakenAndOneMore() {
        MeetingGroups x = of(4, 1, 2, 3, 4, 5, 6, 7, 8, 9, 10, 11);
        due(x.add(12), 12);
        due(x.add(13), FULL);
        due(x.add(15), FULL);
        Bench.groups(x, 1, 2, 3, 4, 5, 6, 7, 8, 9, 10, 11, 12);
        Bench.same(Bench::full, y -> y.add(11), FULL);
    }

    static void p11_fullThenOneOutThenOneMore() {
        MeetingGroups x = of(4, 1, 2, 3, 4, 5, 6, 7, 8, 9, 10, 11, 12);
        due(x.add(13), FULL);
        due(x.out(1), 11);
        due(x.add(13), 12);
        due(x.add(1), FULL);
        Bench.groups(x, 2, 3, 4, 5, 6, 7, 8, 9, 10, 11, 12, 13);
    }

    static void p11_badAheadOfAll() {
        Bench.same(Bench::full, x -> x.add(16), BAD);
        Bench.same(Bench::full, x -> x.add(0), BAD);
    }

    static void p11_notAheadOfFull() {
        Bench.same(Bench::full, x -> x.add(7), NOT);
        Bench.same(Bench::full, x -> x.add(3), NOT);
    }

    static void p11_whatItHasIsAskedOfTheSizeNow() {
        MeetingGroups x = of(3);
        due(x.add(8), BAD);
        x.size(4);
        due(x.add(8), 1);
        x.out(8);
        x.size(3);
        due(x.add(8), BAD);
        Bench.groups(x);
    }

    // ---- 12 out

    static void p12_leastSetAndOneBelow() {
        due(of(4, 1).out(1), 0);
        Bench.sameBusy(x -> x.out(0), BAD);
        Bench.sameBusy(x -> x.out(-1), BAD);
        Bench.sameBusy(x -> x.out(LEAST), BAD);
    }

    static void p12_greatestSetAndOneAbove() {
        due(busy().out(15), 3);
        Bench.sameBusy(x -> x.out(16), BAD);
        Bench.sameBusy(x -> x.out(16 + 3), BAD);
        Bench.sameBusy(x -> x.out(GREATEST), BAD);
        due(of(7, 127).out(127), 0);
        due(of(7, 127).out(128), BAD);
    }

    static void p12_itWasNone() {
        Bench.sameBusy(x -> x.out(1), NONE);
        Bench.sameBusy(x -> x.out(7), NONE);
    }

    static void p12_noGroups() {
        Bench.same(x -> x.size(4), x -> x.out(1), NONE);
        Bench.same(x -> x.size(4), x -> x.out(15), NONE);
        Bench.same(x -> x.size(4), x -> x.out(16), BAD);
    }

    static void p12_outTwice() {
        MeetingGroups x = of(3, 1, 2);
        due(x.out(1), 1);
        due(x.out(1), NONE);
        Bench.groups(x, 2);
    }

    static void p12_theFirstTheLastTheOnlyOne() {
        MeetingGroups x = of(3, 1, 2, 3);
        due(x.out(1), 2);
        Bench.groups(x, 2, 3);
        due(x.out(3), 1);
        Bench.groups(x, 2);
        due(x.out(2), 0);
        Bench.groups(x);
    }

    static void p12_outOfTwelve() {
        MeetingGroups x = of(4, 1, 2, 3, 4, 5, 6, 7, 8, 9, 10, 11, 12);
        due(x.out(12), 11);
        due(x.out(6), 10);
        Bench.groups(x, 1, 2, 3, 4, 5, 7, 8, 9, 10, 11);
    }

    // ---- 13 size

    static void p13_leastAndOneBelow() {
        MeetingGroups x = new MeetingGroups();
        due(x.size(1), 3);
        due(x.count(0), 1);
        Bench.sameBusy(y -> y.size(0), BAD);
        Bench.sameBusy(y -> y.size(-1), BAD);
        Bench.sameBusy(y -> y.size(LEAST), BAD);
    }

    static void p13_greatestAndOneAbove() {
        MeetingGroups x = busy();
        due(x.size(7), 4);
        due(x.count(0), 7);
        Bench.sameBusy(y -> y.size(8), BAD);
        Bench.sameBusy(y -> y.size(32), BAD);
        Bench.sameBusy(y -> y.size(GREATEST), BAD);
    }

    static void p13_itIsSo() {
        Bench.sameBusy(x -> x.size(4), NOT);
        Bench.same(x -> x.seed(1), x -> x.size(3), NOT);
        Bench.same(x -> x.size(7), x -> x.size(7), NOT);
    }

    static void p13_aGroupHasOthers() {
        Bench.sameBusy(x -> x.size(3), NOT);
        Bench.sameBusy(x -> x.size(1), NOT);
    }

    static void p13_justWideEnough() {
        MeetingGroups x = of(7, 1, 8);
        due(x.size(3), NOT);
        due(x.size(4), 7);
        Bench.groups(x, 1, 8);
        x.out(8);
        due(x.size(1), 4);
        Bench.groups(x, 1);
    }

    static void p13_theFirstOrTheLastGroupHasOthers() {
        due(of(7, 64, 1, 2).size(6), NOT);
        due(of(7, 1, 2, 64).size(6), NOT);
        due(of(7, 1, 2, 32).size(6), 7);
    }

    static void p13_noGroupsAnySize() {
        for (int v = 1; v <= 7; v++) {
            for (int w = 1; w <= 7; w++) {
                due(of(v).size(w), v == w ? NOT : v);
            }
        }
    }

    // ---- 14 type

    static void p14_leastLetterAndOneBelow() {
        due(new MeetingGroups().type(32), 1);
        Bench.sameBusy(x -> x.type(31), BAD);
        Bench.sameBusy(x -> x.type(0), BAD);
        Bench.sameBusy(x -> x.type(-1), BAD);
        Bench.sameBusy(x -> x.type(LEAST), BAD);
    }

    static void p14_greatestLetterAndOneAbove() {
        due(new MeetingGroups().type(126), 1);
        Bench.sameBusy(x -> x.type(127), BAD);
        Bench.sameBusy(x -> x.type(GREATEST), BAD);
    }

    static void p14_numbersThatWouldWrapAroundInALetter() {
        Bench.sameBusy(x -> x.type(65536 + 'a'), BAD);
        Bench.sameBusy(x -> x.type(256 + 'a'), BAD);
        Bench.sameBusy(x -> x.type('a' - 65536), BAD);
    }

    private static void ninety(MeetingGroups x) {
        Bench.type(x, "plane");
        for (int i = 5; i < 90; i++) {
            x.type(' ');
        }
    }

    static void p14_allPlacesTakenAndOneMore() {
        MeetingGroups x = new MeetingGroups();
        for (int i = 1; i <= 90; i++) {
            due(x.type(' '), i);
        }
        due(x.type(' '), FULL);
        due(x.type('a'), FULL);
        due(x.read(), -20 - 90);
        Bench.same(BoundaryDoneTest::ninety, y -> y.type('x'), FULL);
        due(Bench.after(BoundaryDoneTest::ninety).read(), 7);
    }

    static void p14_badAheadOfFull() {
        Bench.same(BoundaryDoneTest::ninety, x -> x.type(31), BAD);
        Bench.same(BoundaryDoneTest::ninety, x -> x.type(127), BAD);
    }

    static void p14_afterReadingItBeginsAgain() {
        MeetingGroups x = Bench.after(BoundaryDoneTest::ninety);
        due(x.read(), 7);
        due(x.type('a'), 1);
        due(x.read(), -20);
        due(x.type('a'), 1);
    }

    static void p14_lettersThatWereReadAreGone() {
        MeetingGroups x = new MeetingGroups();
        due(Bench.told(x, "majority 3"), 3);
        // what is left of the longer text doesn't come again
        due(Bench.told(x, "majority"), -20 - 8);
        due(Bench.told(x, "plane"), 7);
    }

    static void p14_onlyTheTapeChanges() {
        MeetingGroups x = busy();
        java.util.List<Integer> before = Bench.asks(x);
        due(x.type('!'), 13);
        due(before.equals(Bench.asks(x)) ? 1 : 0, 1);
    }

    // ---- 16 drift

    static void p16_leastAndOneBelow() {
        MeetingGroups x = new MeetingGroups();
        due(x.drift(1), 1);
        due(x.count(8), 1);
        Bench.sameBusy(y -> y.drift(0), BAD);
        Bench.sameBusy(y -> y.drift(-1), BAD);
        Bench.sameBusy(y -> y.drift(LEAST), BAD);
    }

    static void p16_greatestAndOneAbove() {
        MeetingGroups x = of(1);
        // one element: the set comes, is out, comes ..
        due(x.drift(40), 0);
        due(x.drift(39), 1);
        Bench.sameBusy(y -> y.drift(41), BAD);
        Bench.sameBusy(y -> y.drift(GREATEST), BAD);
    }

    /** The draw after so many turns, worked out by long numbers. */
    private static int drawn(long draw, int turns) {
        for (int t = 0; t < turns; t++) {
            draw = (draw * 1103515245L + 12345L) % (1L << 31);
        }
        return (int) draw;
    }

    static void p16_theDrawWrapsAround() {
        for (int first : new int[] {0, 1, 2, 65535, 65536, 1 << 30, GREATEST - 1, GREATEST}) {
            MeetingGroups x = new MeetingGroups();
            x.seed(first);
            x.drift(1);
            due(x.seed(first), drawn(first, 1));
            x.drift(40);
            due(x.seed(0), drawn(first, 40));
        }
    }

    /** A seed by which the next turn draws the set. */
    private static int seedFor(int n, int set) {
        for (int seed = 0; seed < GREATEST; seed++) {
            if (drawn(seed, 1) / 65536 % ((1 << n) - 1) + 1 == set) {
                return seed;
            }
        }
        return 0;
    }

    static void p16_leastAndGreatestSetOfEachSize() {
        for (int n = 1; n <= 7; n++) {
            for (int set : new int[] {1, (1 << n) - 1}) {
                MeetingGroups x = of(n);
                x.seed(seedFor(n, set));
                due(x.drift(1), 1);
                Bench.groups(x, set);
            }
        }
    }

    static void p16_theSetIsOutIfItIsAGroup() {
        MeetingGroups x = of(4, 1, 2, 15, 3);
        x.seed(seedFor(4, 15));
        due(x.drift(1), 3);
        Bench.groups(x, 1, 2, 3);
        x.seed(seedFor(4, 15));
        due(x.drift(1), 4);
        Bench.groups(x, 1, 2, 3, 15);
    }

    static void p16_elevenAndTwelveAndOneMore() {
        MeetingGroups x = of(4, 1, 2, 3, 4, 5, 6, 7, 8, 9, 10, 11);
        x.seed(seedFor(4, 15));
        due(x.drift(1), 12);
        due(x.group(11, 0), 15);
        x.seed(seedFor(4, 14));
        due(x.drift(1), 12);
        Bench.groups(x, 1, 2, 3, 4, 5, 6, 7, 8, 9, 10, 11, 15);
        due(x.seed(seedFor(4, 6)), drawn(seedFor(4, 14), 1));
        due(x.drift(1), 11);
        Bench.groups(x, 1, 2, 3, 4, 5, 7, 8, 9, 10, 11, 15);
    }

    static void p16_oneThatChangesNothingMayBeUndone() {
        MeetingGroups x = of(4, 1, 2, 3, 4, 5, 6, 7, 8, 9, 10, 11, 12);
        while (x.count(8) > 0) {
            x.undo();
        }
        Bench.told(x, "set 4: 0, 1, 01, 2, 02, 12, 012, 3, 03, 13, 013, 23");
        due(x.count(8), 1);
        x.seed(seedFor(4, 14));
        due(x.drift(1), 12);
        due(x.count(8), 2);
        due(x.undo(), 1);
        due(x.count(1), 12);
        due(x.seed(0), seedFor(4, 14));
    }

    static void p16_eachTurnMayBeUndone() {
        MeetingGroups x = new MeetingGroups();
        // 1103527590, 377401575, 662824084: x is 16838, 5758, 10113; by 7 3, 4, 5 left over
        due(x.drift(3), 3);
        Bench.groups(x, 4, 5, 6);
        due(x.count(8), 3);
        due(x.undo(), 2);
        Bench.groups(x, 4, 5);
        due(x.seed(377401575), 377401575);
        due(x.undo(), 1);
        Bench.groups(x, 4);
        due(x.seed(1103527590), 1103527590);
        due(x.undo(), 0);
        Bench.groups(x);
        due(x.seed(1), 1);
        due(x.undo(), NONE);
    }

    static void p16_moreThanSixTurnsTheOldestAreLost() {
        MeetingGroups x = of(4, 15);
        x.drift(40);
        due(x.count(8), 6);
        for (int left = 5; left >= 0; left--) {
            due(x.undo(), left);
        }
        due(x.undo(), NONE);
        due(x.seed(0), drawn(1, 34));
    }

    static void p16_severalTurnsAreAsManyOfOne() {
        Bench.alike(x -> {
            Bench.busy(x);
            x.drift(5);
        }, x -> {
            Bench.busy(x);
            for (int turn = 0; turn < 5; turn++) {
                x.drift(1);
            }
        });
    }

    // ---- 17 undo

    static void p17_noneIsKnown() {
        Bench.same(x -> x.seed(5), x -> x.undo(), NONE);
        MeetingGroups x = of(4, 1);
        due(x.undo(), 1);
        due(x.undo(), 0);
        due(x.undo(), NONE);
        due(x.count(0), 3);
        Bench.groups(x);
    }

    static void p17_sixAreKnownOlderOnesLost() {
        MeetingGroups x = of(4, 1, 2, 3, 4, 5, 6);
        due(x.count(8), 6);
        for (int left = 5; left >= 0; left--) {
            due(x.undo(), left);
        }
        due(x.undo(), NONE);
        // n told is older than the six
        due(x.count(0), 4);
        Bench.groups(x);
    }

    static void p17_oneMoreThanSix() {
        MeetingGroups x = of(4, 1, 2, 3, 4, 5, 6, 7);
        for (int left = 5; left >= 0; left--) {
            due(x.undo(), left);
        }
        due(x.undo(), NONE);
        Bench.groups(x, 1);
    }

    static void p17_afterSomeAreUndoneOthersCome() {
        MeetingGroups x = of(4, 1, 2, 3, 4, 5, 6, 7);
        due(x.undo(), 5);
        due(x.undo(), 4);
        x.add(8);
        due(x.count(8), 5);
        due(x.undo(), 4);
        Bench.groups(x, 1, 2, 3, 4, 5);
        due(x.undo(), 3);
        Bench.groups(x, 1, 2, 3, 4);
    }

    /** One step, then undone: all is as ahead of it, but the oldest that was known. */
    private static void undone(Bench.Way first, Bench.Call step) {
        Bench.alike(first, x -> {
            first.on(x);
            step.on(x);
            x.undo();
        });
    }

    private static void three(MeetingGroups x) {
        Bench.begin(x, 4, 3, 12);
        Bench.sheet(x, 0, 0, 1, 2, 3, 4);
        x.keep(7, 0, 0, 0);
        x.seed(99);
        x.image();
    }

    static void p17_aGroupToldIsUndone() {
        undone(BoundaryDoneTest::three, x -> x.add(1));
    }

    static void p17_aGroupOutIsUndone() {
        undone(BoundaryDoneTest::three, x -> x.out(3));
    }

    static void p17_sizeToldIsUndone() {
        undone(BoundaryDoneTest::three, x -> x.size(7));
    }

    static void p17_aPlanKeptIsUndone() {
        undone(BoundaryDoneTest::three, x -> x.keep(1, 0, 0, 1));
    }

    static void p17_aPlanKeptByANameThatIsThereIsUndone() {
        undone(BoundaryDoneTest::three, x -> x.keep(7, 0, 0, 2));
    }

    static void p17_aTextIsUndone() {
        undone(BoundaryDoneTest::three, x -> Bench.told(x, "plane"));
        undone(BoundaryDoneTest::three, x -> Bench.told(x, "set 1"));
    }

    static void p17_aTurnIsUndone() {
        undone(BoundaryDoneTest::three, x -> x.drift(1));
    }

    static void p17_thePlanThatWasLostComesAgain() {
        MeetingGroups x = busy();
        due(x.keep(3, 0, 0, 0), 4);
        due(x.plan(7, 3), NONE);
        due(x.undo(), 5);
        due(x.plan(7, 3), 0);
        due(x.plan(7, 0), 5);
        due(x.plan(7, 1), 6);
        due(x.plan(3, 3), NONE);
    }

    static void p17_whateverWasToldSince() {
        MeetingGroups x = of(4, 3);
        x.seed(500);
        x.add(5);
        x.seed(600);
        due(x.undo(), 2);
        due(x.seed(700), 500);
        due(x.undo(), 1);
        // ahead of 3 the draw was 1
        due(x.seed(1), 1);
    }

    static void p17_sheetsTheTapeTheImageStay() {
        MeetingGroups x = busy();
        x.add(1);
        x.drop(0);
        x.sheet(2, 2, 3);
        x.image();
        x.type('x');
        x.undo();
        due(x.drop(0), NULL);
        due(x.drop(2), 3);
        due(x.type('y'), 14);
        due(x.restore(), 1);
        due(x.count(1), 5);
    }

    static void p17_whatIsRefusedIsNotKnown() {
        MeetingGroups x = of(4, 1);
        Bench.sheet(x, 0, 0, 100);
        x.add(1);
        x.add(16);
        x.out(2);
        x.out(0);
        x.size(4);
        x.size(9);
        x.drift(0);
        x.read();
        Bench.told(x, "grid 9*9");
        x.keep(1, 0, 0, 0);
        x.keep(1, 0, 0, 1);
        x.keep(100, 0, 0, 0);
        due(x.count(8), 2);
    }

    static void p17_whatIsNoStepIsNotKnown() {
        MeetingGroups x = of(4, 1);
        x.seed(9);
        x.image();
        x.restore();
        x.type('a');
        Bench.sheet(x, 0, 0, 1, 2, 3);
        x.film(0, 0, 0);
        x.copy(0, 0, 0, 1, 2);
        x.drop(0);
        due(x.count(8), 2);
    }

    // ---- 18 seed

    static void p18_leastAndOneBelow() {
        MeetingGroups x = new MeetingGroups();
        due(x.seed(0), 1);
        due(x.seed(0), 0);
        Bench.sameBusy(y -> y.seed(-1), BAD);
        Bench.sameBusy(y -> y.seed(LEAST), BAD);
    }

    static void p18_greatest() {
        MeetingGroups x = new MeetingGroups();
        due(x.seed(GREATEST), 1);
        due(x.seed(1), GREATEST);
    }

    static void p18_onlyTheDrawChanges() {
        Bench.alike(Bench::busy, x -> {
            Bench.busy(x);
            due(x.seed(0), 77);
            due(x.seed(77), 0);
        });
    }

    static void p18_itIsNotUndoneOfItsOwn() {
        MeetingGroups x = new MeetingGroups();
        x.seed(5);
        due(x.count(8), 0);
        due(x.undo(), NONE);
        due(x.seed(1), 5);
    }

    // ---- 19 image

    static void p19_changesNothingButTheImage() {
        MeetingGroups x = busy();
        java.util.List<Integer> before = Bench.asks(x);
        due(x.image(), 1);
        due(before.equals(Bench.asks(x)) ? 1 : 0, 1);
        due(x.type('x'), 13);
        due(x.drop(0), 8);
        due(x.undo(), 5);
    }

    static void p19_ofANewObject() {
        MeetingGroups x = new MeetingGroups();
        due(x.image(), 1);
        x.size(7);
        x.add(64);
        x.seed(9);
        due(x.restore(), 1);
        due(x.count(0), 3);
        Bench.groups(x);
        due(x.seed(1), 1);
        due(x.undo(), NONE);
    }

    static void p19_theNewestImageCounts() {
        MeetingGroups x = of(3, 1);
        x.image();
        x.add(2);
        x.image();
        x.add(4);
        x.restore();
        Bench.groups(x, 1, 2);
    }

    static void p19_whatComesLaterDoesntChangeIt() {
        MeetingGroups x = of(4, 3, 6);
        Bench.sheet(x, 0, 0, 1, 1);
        x.keep(1, 0, 0, 0);
        x.image();
        for (int turn = 0; turn < 8; turn++) {
            x.drift(1);
            x.keep(turn, 0, 0, 0);
        }
        x.restore();
        Bench.groups(x, 3, 6);
        due(x.count(7), 1);
        due(x.plan(1, 3), 0);
        due(x.count(8), 4);
        due(x.undo(), 3);
        due(x.count(7), 0);
        due(x.undo(), 2);
        Bench.groups(x, 3);
    }

    // ---- 20 restore

    static void p20_thereIsNone() {
        Bench.same(x -> Bench.begin(x, 5, 3, 6, 24), x -> x.restore(), NONE);
    }

    static void p20_anyTimesAgain() {
        MeetingGroups x = of(3, 1);
        x.image();
        for (int turn = 0; turn < 3; turn++) {
            x.add(2);
            x.seed(8);
            due(x.restore(), 1);
            Bench.groups(x, 1);
            due(x.seed(5), 1);
        }
    }

    static void p20_allIsAsItWasThen() {
        Bench.Way then = x -> {
            Bench.busy(x);
            x.image();
        };
        Bench.alike(then, x -> {
            then.on(x);
            x.undo();
            x.undo();
            x.undo();
            x.size(7);
            x.add(64);
            x.keep(7, 0, 0, 2);
            x.keep(8, 0, 0, 1);
            x.drift(1);
            due(x.restore(), 1);
        });
    }

    static void p20_whatMayBeUndoneToo() {
        MeetingGroups x = of(4, 1, 2, 3, 4, 5, 6, 7);
        x.image();
        x.drift(40);
        x.restore();
        due(x.count(8), 6);
        for (int left = 5; left >= 0; left--) {
            due(x.undo(), left);
        }
        due(x.undo(), NONE);
        Bench.groups(x, 1);
    }

    static void p20_lessWasKnownThen() {
        MeetingGroups x = of(4);
        x.image();
        x.drift(9);
        x.restore();
        due(x.count(8), 1);
        due(x.undo(), 0);
        due(x.count(0), 3);
        due(x.undo(), NONE);
    }

    static void p20_sheetsAndTheTapeStay() {
        MeetingGroups x = busy();
        x.drop(0);
        x.item(1, 3, 0, 8);
        Bench.sheet(x, 2, 2, 1, 2);
        x.type(' ');
        due(x.restore(), 1);
        due(x.drop(0), NULL);
        due(x.drop(2), 2);
        due(x.type(' '), 14);
        due(x.read(), 2);
        due(Bench.weight(x, 1, 3, 0), 8);
    }

    static void p20_isNotUndone() {
        MeetingGroups x = of(3, 1);
        x.image();
        x.add(2);
        x.restore();
        due(x.count(8), 1);
        due(x.undo(), 0);
        Bench.groups(x);
        due(x.undo(), NONE);
    }
}
