/** Boundary cases of promises 21 to 27, a test for each sentence; busy() is told in Bench. */
public final class BoundarySheetsTest {
    private static final int BAD = Bench.BAD, NOT = Bench.NOT, NONE = Bench.NONE;
    private static final int NULL = Bench.NULL, CAST = Bench.CAST, INDEX = Bench.INDEX, SIZE = Bench.SIZE;
    private static final int LEAST = Bench.LEAST, GREATEST = Bench.GREATEST;

    public static void main(String[] args) {
        Bench.runAll(BoundarySheetsTest.class, 21, 22, 23, 24, 25, 26, 27);
    }

    private static void due(int got, int want) {
        Bench.due(got, want);
    }

    private static MeetingGroups of(int n, int... groups) {
        return Bench.of(n, groups);
    }

    private static MeetingGroups busy() {
        return Bench.after(Bench::busy);
    }

    // ---- 21 keep

    static void p21_leastNameAndOneBelow() {
        due(busy().keep(0, 0, 0, 0), 4);
        Bench.sameBusy(x -> x.keep(-1, 0, 0, 0), BAD);
        Bench.sameBusy(x -> x.keep(LEAST, 0, 0, 0), BAD);
    }

    static void p21_greatestNameAndOneAbove() {
        due(busy().keep(99, 0, 0, 0), 4);
        Bench.sameBusy(x -> x.keep(100, 0, 0, 0), BAD);
        Bench.sameBusy(x -> x.keep(GREATEST, 0, 0, 0), BAD);
    }

    static void p21_leastAndGreatestSheet() {
        Bench.sameBusy(x -> x.keep(1, -1, 0, 0), BAD);
        Bench.sameBusy(x -> x.keep(1, 4, 0, 0), BAD);
        Bench.sameBusy(x -> x.keep(1, LEAST, 0, 0), BAD);
        Bench.sameBusy(x -> x.keep(1, GREATEST, 0, 0), BAD);
    }

    static void p21_leastAndGreatestLane() {
        Bench.sameBusy(x -> x.keep(1, 0, -1, 0), BAD);
        Bench.sameBusy(x -> x.keep(1, 0, 4, 0), BAD);
        Bench.sameBusy(x -> x.keep(1, 2, GREATEST, 0), BAD);
        for (int lane = 0; lane < 4; lane++) {
            MeetingGroups x = of(2, 3);
            Bench.sheet(x, lane, lane, 99);
            due(x.keep(1, lane, lane, 0), 1);
        }
    }

    static void p21_badAheadOfAll() {
        Bench.sameBusy(x -> x.keep(100, 2, 0, -1), BAD);
        Bench.sameBusy(x -> x.keep(1, 2, 4, -1), BAD);
        Bench.sameBusy(x -> x.keep(1, 4, 1, -1), BAD);
        due(of(3).keep(-1, 0, 0, 0), BAD);
    }

    static void p21_nullAheadOfTheOthers() {
        Bench.sameBusy(x -> x.keep(1, 2, 0, 0), NULL);
        Bench.sameBusy(x -> x.keep(1, 2, 0, -1), NULL);
        due(of(3).keep(1, 0, 0, 0), NULL);
    }

    static void p21_castAheadOfIndex() {
        for (int lane = 1; lane < 4; lane++) {
            int other = lane;
            Bench.sameBusy(x -> x.keep(1, 0, other, 0), CAST);
            Bench.sameBusy(x -> x.keep(1, 0, other, -1), CAST);
        }
        Bench.sameBusy(x -> x.keep(1, 1, 2, 99), CAST);
    }

    static void p21_indexAheadOfNot() {
        // 100, -1, 7, 0 would be no weights
        Bench.sameBusy(x -> x.keep(1, 0, 0, 5), INDEX);
        Bench.sameBusy(x -> x.keep(1, 0, 0, 4), NOT);
    }

    static void p21_firstAndLastItemsAndBeside() {
        due(busy().keep(1, 0, 0, 0), 4);
        Bench.sameBusy(x -> x.keep(1, 0, 0, -1), INDEX);
        Bench.sameBusy(x -> x.keep(1, 0, 0, LEAST), INDEX);
        Bench.sameBusy(x -> x.keep(1, 0, 0, GREATEST), INDEX);
        Bench.sameBusy(x -> x.keep(1, 0, 0, 8), INDEX);
        MeetingGroups x = of(2, 1, 2);
        Bench.sheet(x, 0, 0, -1, 5, 6);
        due(x.keep(1, 0, 0, 1), 1);
        due(x.keep(1, 0, 0, 2), INDEX);
        due(x.plan(1, 0), 6);
        due(x.plan(1, 1), 11);
    }

    static void p21_anEmptySheet() {
        Bench.sameBusy(x -> x.keep(1, 3, 1, 0), INDEX);
    }

    static void p21_leastWeightAndOneBelow() {
        MeetingGroups x = of(2, 1, 2);
        Bench.sheet(x, 0, 0, 0, 1, -1);
        due(x.keep(1, 0, 0, 0), 1);
        due(x.keep(2, 0, 0, 1), NOT);
        due(x.count(7), 1);
        due(x.plan(2, 3), NONE);
    }

    static void p21_greatestWeightAndOneAbove() {
        MeetingGroups x = of(2, 1, 2);
        Bench.sheet(x, 0, 0, 99, 1, 100, 2);
        due(x.keep(1, 0, 0, 0), 1);
        due(x.plan(1, 0), 99);
        due(x.plan(1, 1), 100);
        due(x.keep(1, 0, 0, 1), NOT);
        due(x.keep(1, 0, 0, 2), NOT);
        due(x.plan(1, 0), 99);
        due(x.count(8), 4);
    }

    static void p21_itemsThatWouldWrapAround() {
        MeetingGroups x = of(2, 3);
        Bench.sheet(x, 0, 3, 1L << 32, Long.MIN_VALUE, Long.MAX_VALUE, (1L << 32) + 5, 4);
        for (int i = 0; i < 4; i++) {
            due(x.keep(1, 0, 3, i), NOT);
        }
        due(x.keep(1, 0, 3, 4), 1);
        Bench.sheet(x, 1, 2, 256, Integer.MIN_VALUE, Integer.MAX_VALUE, 65536);
        for (int i = 0; i < 4; i++) {
            due(x.keep(1, 1, 2, i), NOT);
        }
    }

    static void p21_onlyAsManyItemsAsGroupsCount() {
        MeetingGroups x = of(2, 3);
        Bench.sheet(x, 0, 0, -1, 1, 100);
        due(x.keep(1, 0, 0, 1), 1);
        due(x.keep(1, 0, 0, 0), NOT);
        due(x.keep(1, 0, 0, 2), NOT);
    }

    static void p21_noGroups() {
        Bench.Way none = x -> Bench.sheet(x, 0, 0, 1, 2);
        Bench.same(none, x -> x.keep(1, 0, 0, 0), NOT);
        Bench.same(none, x -> x.keep(1, 0, 0, 2), NOT);
        Bench.same(none, x -> x.keep(1, 0, 0, 3), INDEX);
        Bench.same(none, x -> x.keep(1, 0, 0, -1), INDEX);
        Bench.same(none, x -> x.keep(1, 0, 1, 0), CAST);
        Bench.same(none, x -> x.keep(1, 1, 0, 0), NULL);
    }

    static void p21_noGroupsAnEmptySheet() {
        Bench.same(x -> x.sheet(0, 2, 0), x -> x.keep(1, 0, 2, 0), NOT);
        Bench.same(x -> x.sheet(0, 2, 0), x -> x.keep(1, 0, 2, 1), INDEX);
    }

    static void p21_twelveGroupsJustFit() {
        MeetingGroups x = Bench.after(Bench::full);
        x.sheet(2, 1, 24);
        due(x.keep(1, 2, 1, 12), 4);
        due(x.keep(1, 2, 1, 13), INDEX);
        due(x.keep(1, 2, 1, 0), 4);
    }

    static void p21_allPlacesTakenAndOneMore() {
        MeetingGroups x = of(2, 3);
        Bench.sheet(x, 0, 0, 1);
        for (int name = 1; name <= 4; name++) {
            due(x.keep(name, 0, 0, 0), name);
        }
        due(x.keep(5, 0, 0, 0), 4);
        due(x.plan(1, 3), NONE);
        due(x.plan(2, 3), 0);
        due(x.plan(5, 3), 3);
        due(x.keep(1, 0, 0, 0), 4);
        due(x.plan(2, 3), NONE);
        due(x.plan(3, 3), 0);
        due(x.plan(1, 3), 3);
    }

    static void p21_aNameThatIsThereTakesNoPlaceMore() {
        MeetingGroups x = of(2, 3);
        Bench.sheet(x, 0, 0, 1);
        due(x.keep(1, 0, 0, 0), 1);
        due(x.keep(1, 0, 0, 0), 1);
        due(x.keep(2, 0, 0, 0), 2);
        due(x.keep(1, 0, 0, 0), 2);
        due(x.plan(2, 3), 0);
        due(x.plan(1, 3), 1);
    }

    static void p21_aNameThatIsThereAsAllPlacesAreTaken() {
        MeetingGroups x = busy();
        due(x.keep(50, 0, 0, 0), 4);
        due(x.plan(7, 3), 0);
        due(x.plan(0, 3), 1);
        due(x.plan(99, 3), 2);
        due(x.plan(50, 3), 3);
        due(x.keep(1, 0, 0, 0), 4);
        due(x.plan(7, 3), NONE);
        due(x.plan(50, 3), 2);
    }

    static void p21_theSheetMayChangeThen() {
        MeetingGroups x = of(2, 1, 2);
        Bench.sheet(x, 0, 0, 1, 2);
        x.keep(1, 0, 0, 0);
        x.item(0, 0, 0, 50);
        x.drop(0);
        due(x.plan(1, 0), 2);
        due(x.plan(1, 1), 3);
    }

    // ---- 22 what

    static void p22_leastAndGreatestSheet() {
        Bench.sameBusy(x -> x.what(0, 0, 0, 1), 1 + 2 + 4);
        Bench.sameBusy(x -> x.what(-1, 0, 0, 1), BAD);
        Bench.sameBusy(x -> x.what(4, 0, 0, 1), BAD);
        Bench.sameBusy(x -> x.what(3, 1, 0, 1), INDEX);
    }

    static void p22_leastAndGreatestLane() {
        Bench.sameBusy(x -> x.what(0, -1, 0, 1), BAD);
        Bench.sameBusy(x -> x.what(0, 4, 0, 1), BAD);
        Bench.sameBusy(x -> x.what(1, 3, 3, 1), 1 + 2 + 4 + 8);
    }

    private static void thirteen(MeetingGroups x) {
        Bench.begin(x, 7, 1, 2, 3, 4, 5, 6, 7, 8, 9, 10, 11, 12);
        Bench.sheet(x, 0, 0, 12, 11, 10, 9, 8, 7, 6, 5, 4, 3, 2, 1, 1);
    }

    static void p22_leastRowAndOneBelow() {
        Bench.same(BoundarySheetsTest::thirteen, x -> x.what(0, 0, 12, 1), 1 + 2 + 4);
        Bench.same(BoundarySheetsTest::thirteen, x -> x.what(0, 0, 0, 0), BAD);
        Bench.same(BoundarySheetsTest::thirteen, x -> x.what(0, 0, 0, -1), BAD);
        Bench.same(BoundarySheetsTest::thirteen, x -> x.what(0, 0, 0, LEAST), BAD);
    }

    static void p22_longestRowAndOneAbove() {
        Bench.same(BoundarySheetsTest::thirteen, x -> x.what(0, 0, 0, 12), 16);
        Bench.same(BoundarySheetsTest::thirteen, x -> x.what(0, 0, 1, 12), 0);
        Bench.same(BoundarySheetsTest::thirteen, x -> x.what(0, 0, 0, 13), BAD);
        Bench.same(BoundarySheetsTest::thirteen, x -> x.what(0, 0, 0, GREATEST), BAD);
    }

    static void p22_badAheadOfAll() {
        Bench.sameBusy(x -> x.what(2, 0, 0, 0), BAD);
        Bench.sameBusy(x -> x.what(0, 1, 0, 13), BAD);
        Bench.sameBusy(x -> x.what(0, 0, -1, 0), BAD);
        Bench.sameBusy(x -> x.what(2, 4, 0, 1), BAD);
    }

    static void p22_nullThenCastThenIndexThenNot() {
        Bench.sameBusy(x -> x.what(2, 0, -1, 1), NULL);
        Bench.sameBusy(x -> x.what(0, 1, -1, 1), CAST);
        Bench.sameBusy(x -> x.what(1, 2, 0, 1), CAST);
        Bench.sameBusy(x -> x.what(0, 0, 4, 5), INDEX);
        Bench.sameBusy(x -> x.what(0, 0, 4, 4), NOT);
    }

    static void p22_firstAndLastItemsAndBeside() {
        Bench.sameBusy(x -> x.what(0, 0, -1, 1), INDEX);
        Bench.sameBusy(x -> x.what(0, 0, 8, 1), INDEX);
        Bench.sameBusy(x -> x.what(0, 0, 7, 2), INDEX);
        Bench.sameBusy(x -> x.what(0, 0, 6, 1), 1 + 2 + 4);
        Bench.sameBusy(x -> x.what(0, 0, GREATEST, 12), INDEX);
        Bench.sameBusy(x -> x.what(0, 0, GREATEST - 11, 12), INDEX);
        Bench.sameBusy(x -> x.what(0, 0, LEAST, 12), INDEX);
    }

    static void p22_leastSetAndNought() {
        Bench.sameBusy(x -> x.what(0, 0, 0, 1), 7);
        Bench.sameBusy(x -> x.what(0, 0, 7, 1), NOT);
        Bench.sameBusy(x -> x.what(0, 0, 6, 2), NOT);
        Bench.sameBusy(x -> x.what(0, 0, 5, 1), NOT);
    }

    static void p22_greatestSetAndOneAbove() {
        MeetingGroups x = of(4);
        Bench.sheet(x, 0, 1, 15, 16, 31);
        due(x.what(0, 1, 0, 1), 15);
        due(x.what(0, 1, 1, 1), NOT);
        due(x.what(0, 1, 0, 2), NOT);
        x.size(5);
        due(x.what(0, 1, 1, 1), 7);
        due(x.what(0, 1, 2, 1), 15);
        x.size(7);
        Bench.sheet(x, 0, 1, 127, 128);
        due(x.what(0, 1, 0, 1), 15);
        due(x.what(0, 1, 1, 1), NOT);
    }

    static void p22_itemsThatWouldWrapAround() {
        MeetingGroups x = of(3, 1);
        Bench.sheet(x, 0, 3, (1L << 32) + 1, Long.MIN_VALUE + 1, Long.MAX_VALUE, 1);
        for (int i = 0; i < 3; i++) {
            due(x.what(0, 3, i, 1), NOT);
        }
        due(x.what(0, 3, 3, 1), 16 + 4 + 2 + 1);
    }

    static void p22_oneSetAloneIsInCommonAndNoPart() {
        due(row(7, 64), 1 + 2 + 4);
        due(row(7, 127), 1 + 2 + 4 + 8);
        due(row(1, 1), 1 + 2 + 4 + 8);
    }

    private static int row(int n, long... sets) {
        MeetingGroups x = of(n);
        Bench.sheet(x, 0, 0, sets);
        return x.what(0, 0, 0, sets.length);
    }

    static void p22_twoAlike() {
        // they have something in common, but one is a part of the other
        due(row(2, 1, 1), 1 + 4);
        due(row(2, 3, 3), 1 + 4 + 8);
    }

    static void p22_twoApart() {
        due(row(2, 1, 2), 2 + 4 + 8);
        due(row(3, 1, 2), 2 + 4);
        due(row(3, 1, 6), 2 + 8);
    }

    static void p22_aPartAheadOrBehind() {
        due(row(3, 1, 3), 1);
        due(row(3, 3, 1), 1);
    }

    static void p22_onlyTheLastPairIsOtherwise() {
        due(row(4, 3, 5, 9, 6) & 1, 0);
        due(row(4, 3, 5, 9, 1) & 2, 0);
        due(row(4, 3, 5, 9, 7) & 4, 0);
        due(row(4, 3, 12) & 8, 8);
        due(row(4, 3, 12, 1) & 8, 0);
    }

    static void p22_elementsInNoneOfThem() {
        // 0 times is as many only for all
        due(row(3, 3, 3) & 8, 0);
        due(row(3, 3, 5, 6) & 8, 8);
        due(row(4, 3, 5, 6) & 8, 0);
    }

    private static int among(int[] groups, long... sets) {
        MeetingGroups x = of(3, groups);
        Bench.sheet(x, 0, 2, sets);
        return x.what(0, 2, 0, sets.length) & 16;
    }

    static void p22_justTheGroups() {
        int[] groups = {3, 5, 6};
        due(among(groups, 3, 5, 6), 16);
        due(among(groups, 6, 3, 5), 16);
        due(among(groups, 3, 5), 0);
        due(among(groups, 3, 5, 6, 3), 0);
        due(among(groups, 3, 5, 5), 0);
        due(among(groups, 3, 3, 3), 0);
        due(among(groups, 3, 5, 7), 0);
        due(among(groups, 3, 5, 6, 7), 0);
        due(among(new int[] {}, 3), 0);
    }

    static void p22_oneGroupTwiceInTheSteadOfAnyOther() {
        int[] groups = {3, 5, 6};
        for (int missing = 0; missing < 3; missing++) {
            for (int twice = 0; twice < 3; twice++) {
                long[] row = {3, 5, 6};
                row[missing] = groups[twice];
                due(among(groups, row), missing == twice ? 16 : 0);
            }
        }
        due(among(new int[] {3, 5}, 5, 5), 0);
        due(among(new int[] {3, 5}, 3, 3), 0);
    }

    // ---- 23 film

    static void p23_leastAndGreatestSheet() {
        due(busy().film(0, 0, 0), 4);
        Bench.sameBusy(x -> x.film(-1, 0, 0), BAD);
        Bench.sameBusy(x -> x.film(4, 0, 0), BAD);
        MeetingGroups x = busy();
        x.sheet(3, 2, 4);
        due(x.film(3, 2, 0), 4);
    }

    static void p23_leastAndGreatestLane() {
        Bench.sameBusy(x -> x.film(0, -1, 0), BAD);
        Bench.sameBusy(x -> x.film(0, 4, 0), BAD);
        due(busy().film(1, 3, 0), 4);
    }

    static void p23_badThenNullThenCastThenIndex() {
        Bench.sameBusy(x -> x.film(2, 4, -1), BAD);
        Bench.sameBusy(x -> x.film(2, 0, -1), NULL);
        Bench.sameBusy(x -> x.film(0, 1, -1), CAST);
        Bench.sameBusy(x -> x.film(1, 0, 9), CAST);
        Bench.sameBusy(x -> x.film(0, 0, -1), INDEX);
    }

    static void p23_firstAndLastItemsAndBeside() {
        Bench.sameBusy(x -> x.film(0, 0, 5), INDEX);
        Bench.sameBusy(x -> x.film(0, 0, 8), INDEX);
        Bench.sameBusy(x -> x.film(0, 0, LEAST), INDEX);
        Bench.sameBusy(x -> x.film(0, 0, GREATEST), INDEX);
        Bench.sameBusy(x -> x.film(1, 3, 1), INDEX);
        MeetingGroups x = busy();
        due(x.film(0, 0, 4), 4);
        due(x.what(0, 0, 4, 4) & 16, 16);
        due(Bench.weight(x, 0, 0, 3), 4);
        due(Bench.weight(x, 0, 0, 4), 3);
        due(Bench.weight(x, 0, 0, 7), 15);
    }

    static void p23_itemsBesideStay() {
        MeetingGroups x = of(3, 7);
        Bench.sheet(x, 0, 1, 10, 20, 30);
        due(x.film(0, 1, 1), 1);
        due(Bench.weight(x, 0, 1, 0), 10);
        due(Bench.weight(x, 0, 1, 1), 7);
        due(Bench.weight(x, 0, 1, 2), 30);
    }

    static void p23_onlyTheSheetChanges() {
        MeetingGroups x = busy();
        java.util.List<Integer> before = Bench.asks(x);
        due(x.film(0, 0, 0), 4);
        due(before.equals(Bench.asks(x)) ? 1 : 0, 1);
        due(x.type(' '), 13);
    }

    static void p23_noGroups() {
        Bench.Way none = x -> Bench.sheet(x, 0, 0, 1, 2);
        Bench.same(none, x -> x.film(0, 0, 0), 0);
        Bench.same(none, x -> x.film(0, 0, 2), 0);
        Bench.same(none, x -> x.film(0, 0, 3), INDEX);
        Bench.same(none, x -> x.film(0, 0, -1), INDEX);
        Bench.same(none, x -> x.film(0, 1, 0), CAST);
        Bench.same(none, x -> x.film(1, 0, 0), NULL);
    }

    static void p23_noGroupsAnEmptySheet() {
        Bench.same(x -> x.sheet(0, 3, 0), x -> x.film(0, 3, 0), 0);
        Bench.same(x -> x.sheet(0, 3, 0), x -> x.film(0, 3, 1), INDEX);
    }

    static void p23_twelveGroupsJustFit() {
        for (int lane = 0; lane < 4; lane++) {
            MeetingGroups x = Bench.after(Bench::full);
            x.sheet(2, lane, 24);
            due(x.film(2, lane, 13), INDEX);
            due(x.film(2, lane, 12), 12);
            due(x.what(2, lane, 12, 12), 16);
            due(x.what(2, lane, 11, 1), NOT);
        }
    }

    static void p23_theWidestSetFitsEachLane() {
        for (int lane = 0; lane < 4; lane++) {
            MeetingGroups x = of(7, 127);
            x.sheet(0, lane, 1);
            due(x.film(0, lane, 0), 1);
            due(x.what(0, lane, 0, 1), 31);
        }
    }

    // ---- 24 sheet

    static void p24_leastAndGreatestSheet() {
        due(busy().sheet(0, 0, 1), 1);
        due(busy().sheet(3, 0, 1), 1);
        Bench.sameBusy(x -> x.sheet(-1, 0, 1), BAD);
        Bench.sameBusy(x -> x.sheet(4, 0, 1), BAD);
        Bench.sameBusy(x -> x.sheet(LEAST, 0, 1), BAD);
        Bench.sameBusy(x -> x.sheet(GREATEST, 0, 1), BAD);
    }

    static void p24_leastAndGreatestLane() {
        for (int lane = 0; lane < 4; lane++) {
            MeetingGroups x = busy();
            due(x.sheet(2, lane, 3), 3);
            due(x.item(2, lane, 2, 1), 1);
            due(x.item(2, (lane + 1) % 4, 2, 1), CAST);
        }
        Bench.sameBusy(x -> x.sheet(0, -1, 1), BAD);
        Bench.sameBusy(x -> x.sheet(0, 4, 1), BAD);
    }

    static void p24_leastLengthAndOneBelow() {
        MeetingGroups x = busy();
        due(x.sheet(0, 1, 0), 0);
        due(x.item(0, 1, 0, 1), INDEX);
        due(x.drop(0), 0);
        Bench.sameBusy(y -> y.sheet(0, 0, -1), SIZE);
        Bench.sameBusy(y -> y.sheet(2, 0, -1), SIZE);
        Bench.sameBusy(y -> y.sheet(0, 0, LEAST), SIZE);
    }

    static void p24_greatestLengthAndOneAbove() {
        MeetingGroups x = busy();
        due(x.sheet(0, 1, 24), 24);
        due(x.item(0, 1, 23, 1), 1);
        due(x.item(0, 1, 24, 1), INDEX);
        due(x.drop(0), 24);
        Bench.sameBusy(y -> y.sheet(0, 0, 25), BAD);
        Bench.sameBusy(y -> y.sheet(2, 0, GREATEST), BAD);
    }

    static void p24_badAheadOfSize() {
        Bench.sameBusy(x -> x.sheet(4, 0, -1), BAD);
        Bench.sameBusy(x -> x.sheet(0, 4, -1), BAD);
        Bench.sameBusy(x -> x.sheet(-1, -1, -1), BAD);
    }

    static void p24_aNewRowHoldsNoughts() {
        MeetingGroups x = new MeetingGroups();
        Bench.sheet(x, 0, 2, 5, 6, 7);
        x.sheet(0, 2, 3);
        for (int i = 0; i < 3; i++) {
            due(Bench.weight(x, 0, 2, i), 0);
        }
    }

    static void p24_aLongerRowHoldsNothingOfTheOneBefore() {
        MeetingGroups x = new MeetingGroups();
        Bench.sheet(x, 0, 2, 5, 6, 7);
        x.sheet(0, 2, 1);
        x.sheet(0, 2, 3);
        for (int i = 0; i < 3; i++) {
            due(Bench.weight(x, 0, 2, i), 0);
        }
    }

    static void p24_anotherSheetStays() {
        MeetingGroups x = busy();
        x.sheet(3, 0, 24);
        due(x.drop(0), 8);
        due(x.drop(1), 4);
        due(x.drop(2), NULL);
    }

    // ---- 25 drop

    static void p25_leastAndGreatestSheet() {
        due(busy().drop(0), 8);
        due(busy().drop(3), 0);
        Bench.sameBusy(x -> x.drop(-1), BAD);
        Bench.sameBusy(x -> x.drop(4), BAD);
        Bench.sameBusy(x -> x.drop(LEAST), BAD);
        Bench.sameBusy(x -> x.drop(GREATEST), BAD);
    }

    static void p25_nothingThere() {
        Bench.sameBusy(x -> x.drop(2), NULL);
        MeetingGroups x = busy();
        due(x.drop(0), 8);
        due(x.drop(0), NULL);
    }

    static void p25_thenAllFindNothing() {
        MeetingGroups x = busy();
        x.drop(0);
        due(x.keep(1, 0, 0, 0), NULL);
        due(x.what(0, 0, 0, 1), NULL);
        due(x.film(0, 0, 0), NULL);
        due(x.item(0, 0, 0, 1), NULL);
        due(x.copy(0, 0, 1, 0, 0), NULL);
        due(x.copy(1, 0, 0, 0, 0), NULL);
    }

    static void p25_aRowAfterItIsNew() {
        MeetingGroups x = busy();
        x.drop(0);
        x.sheet(0, 0, 8);
        for (int i = 0; i < 8; i++) {
            due(Bench.weight(x, 0, 0, i), 0);
        }
    }

    static void p25_longestRow() {
        MeetingGroups x = new MeetingGroups();
        x.sheet(2, 3, 24);
        due(x.drop(2), 24);
    }

    // ---- 26 item

    static void p26_leastAndGreatestSheet() {
        Bench.sameBusy(x -> x.item(-1, 0, 0, 1), BAD);
        Bench.sameBusy(x -> x.item(4, 0, 0, 1), BAD);
        due(busy().item(0, 0, 0, 1), 1);
    }

    static void p26_leastAndGreatestLane() {
        Bench.sameBusy(x -> x.item(0, -1, 0, 1), BAD);
        Bench.sameBusy(x -> x.item(0, 4, 0, 1), BAD);
        due(busy().item(1, 3, 0, 1), 1);
    }

    static void p26_badThenNullThenCastThenIndex() {
        Bench.sameBusy(x -> x.item(2, 4, -1, 1), BAD);
        Bench.sameBusy(x -> x.item(2, 0, -1, 1), NULL);
        Bench.sameBusy(x -> x.item(0, 1, -1, 1), CAST);
        Bench.sameBusy(x -> x.item(0, 3, 8, 1), CAST);
        Bench.sameBusy(x -> x.item(0, 0, -1, 1), INDEX);
    }

    static void p26_firstAndLastItemAndBeside() {
        Bench.sameBusy(x -> x.item(0, 0, -1, 50), INDEX);
        Bench.sameBusy(x -> x.item(0, 0, 8, 50), INDEX);
        Bench.sameBusy(x -> x.item(0, 0, LEAST, 50), INDEX);
        Bench.sameBusy(x -> x.item(0, 0, GREATEST, 50), INDEX);
        MeetingGroups x = busy();
        due(x.item(0, 0, 0, 50), 1);
        due(x.item(0, 0, 7, 60), 1);
        due(Bench.weight(x, 0, 0, 0), 50);
        due(Bench.weight(x, 0, 0, 1), 2);
        due(Bench.weight(x, 0, 0, 6), 7);
        due(Bench.weight(x, 0, 0, 7), 60);
    }

    static void p26_anEmptySheet() {
        Bench.sameBusy(x -> x.item(3, 1, 0, 1), INDEX);
    }

    private static void comes(int lane, long v, int weight) {
        MeetingGroups x = new MeetingGroups();
        Bench.sheet(x, 0, lane, v);
        Bench.due(v + " in lane " + lane, Bench.weight(x, 0, lane, 0), weight);
    }

    static void p26_bytesTakeEightBits() {
        comes(0, 256, 0);
        comes(0, 256 + 99, 99);
        comes(0, -256 + 5, 5);
        comes(0, Long.MIN_VALUE + 7, 7);
        comes(0, 128, NOT);
        comes(0, 255, NOT);
        comes(0, -1, NOT);
    }

    static void p26_shortsTakeSixteenBits() {
        comes(1, 256, NOT);
        comes(1, 65536, 0);
        comes(1, 65536 + 99, 99);
        comes(1, -65536 + 5, 5);
        comes(1, Long.MIN_VALUE + 7, 7);
        comes(1, 32768, NOT);
        comes(1, 65535, NOT);
    }

    static void p26_intsTakeThirtyTwoBits() {
        comes(2, 65536, NOT);
        comes(2, 1L << 32, 0);
        comes(2, (1L << 32) + 99, 99);
        comes(2, -(1L << 32) + 5, 5);
        comes(2, Long.MIN_VALUE + 7, 7);
        comes(2, 1L << 31, NOT);
        comes(2, (1L << 32) - 1, NOT);
    }

    static void p26_longsTakeAll() {
        comes(3, 1L << 32, NOT);
        comes(3, Long.MIN_VALUE + 7, NOT);
        comes(3, Long.MAX_VALUE, NOT);
        comes(3, 99, 99);
    }

    static void p26_bytesHaveASign() {
        MeetingGroups x = of(7, 127);
        Bench.sheet(x, 0, 0, 127, 128, 129);
        due(x.what(0, 0, 0, 1), 31);
        due(x.what(0, 0, 1, 1), NOT);
        due(x.what(0, 0, 2, 1), NOT);
    }

    // ---- 27 copy

    static void p27_leastAndGreatestSheets() {
        Bench.sameBusy(x -> x.copy(-1, 0, 0, 0, 1), BAD);
        Bench.sameBusy(x -> x.copy(4, 0, 0, 0, 1), BAD);
        Bench.sameBusy(x -> x.copy(0, 0, -1, 0, 1), BAD);
        Bench.sameBusy(x -> x.copy(0, 0, 4, 0, 1), BAD);
        Bench.sameBusy(x -> x.copy(0, 0, 0, 0, 1), 1);
        Bench.sameBusy(x -> x.copy(3, 0, 3, 0, 0), 0);
    }

    static void p27_badThenNullThenCastThenIndex() {
        Bench.sameBusy(x -> x.copy(2, 0, 4, 0, -1), BAD);
        Bench.sameBusy(x -> x.copy(4, 0, 2, 0, -1), BAD);
        Bench.sameBusy(x -> x.copy(2, 0, 0, 0, -1), NULL);
        Bench.sameBusy(x -> x.copy(0, 0, 2, 0, -1), NULL);
        Bench.sameBusy(x -> x.copy(2, 0, 2, 0, 0), NULL);
        Bench.sameBusy(x -> x.copy(0, 0, 1, 0, -1), CAST);
        Bench.sameBusy(x -> x.copy(1, 0, 0, 0, 0), CAST);
        Bench.sameBusy(x -> x.copy(3, 0, 0, 0, 1), CAST);
        Bench.sameBusy(x -> x.copy(0, 0, 0, 0, -1), INDEX);
    }

    static void p27_lengthBelowNought() {
        Bench.sameBusy(x -> x.copy(0, 1, 0, 2, -1), INDEX);
        Bench.sameBusy(x -> x.copy(0, 1, 0, 2, LEAST), INDEX);
        Bench.sameBusy(x -> x.copy(0, 8, 0, 8, -1), INDEX);
    }

    static void p27_numbersThatWouldWrapAround() {
        Bench.sameBusy(x -> x.copy(0, 1, 0, 2, GREATEST), INDEX);
        Bench.sameBusy(x -> x.copy(0, GREATEST, 0, 0, 1), INDEX);
        Bench.sameBusy(x -> x.copy(0, 0, 0, GREATEST, 1), INDEX);
        Bench.sameBusy(x -> x.copy(0, GREATEST, 0, GREATEST, GREATEST), INDEX);
        Bench.sameBusy(x -> x.copy(0, LEAST, 0, 0, LEAST), INDEX);
        Bench.sameBusy(x -> x.copy(0, 0, 0, LEAST, 0), INDEX);
    }

    static void p27_noItemIsTaken() {
        Bench.sameBusy(x -> x.copy(0, 8, 0, 8, 0), 0);
        Bench.sameBusy(x -> x.copy(0, 0, 0, 8, 0), 0);
        Bench.sameBusy(x -> x.copy(0, 9, 0, 0, 0), INDEX);
        Bench.sameBusy(x -> x.copy(0, 0, 0, 9, 0), INDEX);
        Bench.sameBusy(x -> x.copy(0, -1, 0, 0, 0), INDEX);
        Bench.sameBusy(x -> x.copy(0, 0, 0, -1, 0), INDEX);
    }

    static void p27_emptySheets() {
        Bench.sameBusy(x -> x.copy(3, 0, 3, 0, 0), 0);
        Bench.sameBusy(x -> x.copy(3, 1, 3, 0, 0), INDEX);
        Bench.sameBusy(x -> x.copy(3, 0, 3, 0, 1), INDEX);
    }

    static void p27_justAllAndOneMore() {
        Bench.sameBusy(x -> x.copy(0, 0, 0, 0, 8), 8);
        Bench.sameBusy(x -> x.copy(0, 0, 0, 0, 9), INDEX);
        Bench.sameBusy(x -> x.copy(0, 1, 0, 0, 8), INDEX);
        Bench.sameBusy(x -> x.copy(0, 0, 0, 1, 8), INDEX);
    }

    static void p27_theOneOrTheOtherIsTooShort() {
        MeetingGroups x = new MeetingGroups();
        Bench.sheet(x, 0, 1, 1, 2, 3);
        Bench.sheet(x, 1, 1, 9, 8);
        due(x.copy(0, 0, 1, 0, 3), INDEX);
        due(x.copy(1, 0, 0, 0, 3), INDEX);
        due(x.copy(0, 1, 1, 0, 2), 2);
        due(Bench.weight(x, 1, 1, 0), 2);
        due(Bench.weight(x, 1, 1, 1), 3);
        due(Bench.weight(x, 0, 1, 0), 1);
    }

    private static void weights(MeetingGroups x, int... weights) {
        for (int i = 0; i < weights.length; i++) {
            due(Bench.weight(x, 0, 2, i), weights[i]);
        }
    }

    static void p27_upInTheSameSheet() {
        MeetingGroups x = new MeetingGroups();
        Bench.sheet(x, 0, 2, 1, 2, 3, 4, 5);
        due(x.copy(0, 0, 0, 2, 3), 3);
        weights(x, 1, 2, 1, 2, 3);
    }

    static void p27_downInTheSameSheet() {
        MeetingGroups x = new MeetingGroups();
        Bench.sheet(x, 0, 2, 1, 2, 3, 4, 5);
        due(x.copy(0, 2, 0, 0, 3), 3);
        weights(x, 3, 4, 5, 4, 5);
    }

    static void p27_asIfAllWereTakenAhead() {
        MeetingGroups x = new MeetingGroups();
        Bench.sheet(x, 0, 2, 1, 2, 3, 4, 5);
        due(x.copy(0, 0, 0, 1, 4), 4);
        weights(x, 1, 1, 2, 3, 4);
        due(x.copy(0, 1, 0, 0, 4), 4);
        weights(x, 1, 2, 3, 4, 4);
    }

    static void p27_longestRow() {
        MeetingGroups x = new MeetingGroups();
        x.sheet(0, 2, 24);
        x.sheet(1, 2, 24);
        x.item(1, 2, 0, 5);
        x.item(1, 2, 23, 6);
        due(x.copy(1, 0, 0, 0, 25), INDEX);
        due(x.copy(1, 0, 0, 0, 24), 24);
        due(Bench.weight(x, 0, 2, 0), 5);
        due(Bench.weight(x, 0, 2, 23), 6);
        due(Bench.weight(x, 0, 2, 22), 0);
    }

    static void p27_theSourceStaysAndSoDoesItLater() {
        MeetingGroups x = new MeetingGroups();
        Bench.sheet(x, 0, 2, 1, 2);
        Bench.sheet(x, 2, 2, 7, 8);
        due(x.copy(2, 0, 0, 0, 2), 2);
        x.item(2, 2, 0, 9);
        weights(x, 7, 8);
        due(Bench.weight(x, 2, 2, 0), 9);
    }
}
