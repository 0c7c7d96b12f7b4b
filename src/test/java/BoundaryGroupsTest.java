/** Boundary cases of promises 1 to 6, a test for each sentence; busy() is told in Bench. */
public final class BoundaryGroupsTest {
    private static final int BAD = Bench.BAD, NOT = Bench.NOT, NONE = Bench.NONE, NULL = Bench.NULL;
    private static final int LEAST = Bench.LEAST, GREATEST = Bench.GREATEST;

    public static void main(String[] args) {
        Bench.runAll(BoundaryGroupsTest.class, 1, 2, 3, 4, 5, 6);
    }

    private static void due(int got, int want) {
        Bench.due(got, want);
    }

    private static MeetingGroups of(int n, int... groups) {
        return Bench.of(n, groups);
    }

    private static MeetingGroups busy() {
        return Bench.after(Bench::busy);
    }

    // ---- 1 a new object

    static void p01_threeElementsAtFirst() {
        due(new MeetingGroups().count(0), 3);
        due(new MeetingGroups().element(2, 0), 0);
        due(new MeetingGroups().element(3, 0), BAD);
    }

    static void p01_noGroupsAtFirst() {
        Bench.groups(new MeetingGroups());
    }

    static void p01_noPlansAtFirst() {
        MeetingGroups x = new MeetingGroups();
        due(x.count(7), 0);
        for (int name = 0; name <= 99; name++) {
            due(x.plan(name, 3), NONE);
        }
    }

    static void p01_theDrawIsOneAtFirst() {
        due(new MeetingGroups().seed(0), 1);
    }

    static void p01_nothingMayBeUndoneAtFirst() {
        due(new MeetingGroups().count(8), 0);
        due(new MeetingGroups().undo(), NONE);
    }

    static void p01_noImageAtFirst() {
        due(new MeetingGroups().restore(), NONE);
    }

    static void p01_theTapeIsEmptyAtFirst() {
        due(new MeetingGroups().type(' '), 1);
        due(new MeetingGroups().read(), -20);
    }

    static void p01_sheetsHoldNothingAtFirst() {
        for (int s = 0; s < 4; s++) {
            due(new MeetingGroups().drop(s), NULL);
        }
    }

    static void p01_objectsAreApart() {
        MeetingGroups x = new MeetingGroups();
        Bench.busy(new MeetingGroups());
        due(x.count(0), 3);
        Bench.groups(x);
        due(x.count(7), 0);
        due(x.restore(), NONE);
        due(x.drop(0), NULL);
        due(x.read(), -20);
        due(x.seed(0), 1);
    }

    static void p01_theBusyStateIsAsThought() {
        MeetingGroups x = busy();
        due(x.count(0), 4);
        Bench.groups(x, 3, 6, 12, 15);
        due(x.count(7), 4);
        due(x.count(8), 6);
        due(x.seed(77), 77);
        due(x.plan(7, 3), 0);
        due(x.plan(50, 3), 1);
        due(x.plan(0, 3), 2);
        due(x.plan(99, 3), 3);
        // 1, 2, 3, 4 on 0011, 0110, 1100, 1111: the third element bears 9 of 10
        due(x.plan(99, 0), 9);
        due(x.plan(99, 1), 10);
        due(x.read(), 2);
        Bench.groups(x, 3, 4);
        due(Bench.weight(x, 0, 0, 2), 3);
        due(Bench.weight(x, 0, 0, 4), NOT);
        due(Bench.weight(x, 0, 0, 7), 0);
        due(x.drop(0), 8);
        due(x.drop(3), 0);
        due(busy().drop(1), 4);
        due(busy().drop(2), NULL);
    }

    // ---- 2 group

    static void p02_firstGroupAndOneBelow() {
        due(busy().group(0, 0), 3);
        Bench.sameBusy(x -> x.group(-1, 0), BAD);
        Bench.sameBusy(x -> x.group(LEAST, 0), BAD);
    }

    static void p02_lastGroupAndOneAbove() {
        due(busy().group(3, 0), 15);
        Bench.sameBusy(x -> x.group(4, 0), BAD);
        Bench.sameBusy(x -> x.group(GREATEST, 0), BAD);
    }

    static void p02_allPlacesTakenAndOneMore() {
        MeetingGroups x = Bench.after(Bench::full);
        due(x.group(11, 0), 7);
        due(x.group(12, 0), BAD);
        due(x.group(11, 1), 1);
        due(x.group(11, 2), 0);
    }

    static void p02_noGroups() {
        for (int what = -1; what <= 3; what++) {
            due(of(3).group(0, what), BAD);
        }
    }

    static void p02_aPlaceThatIsNoneAnyMore() {
        MeetingGroups x = of(3, 1, 2);
        x.out(1);
        due(x.group(0, 0), 2);
        due(x.group(1, 0), BAD);
        due(x.group(1, 1), BAD);
        due(x.group(1, 2), BAD);
    }

    static void p02_leastAndGreatestWhat() {
        Bench.sameBusy(x -> x.group(3, 0), 15);
        Bench.sameBusy(x -> x.group(3, 1), 1);
        Bench.sameBusy(x -> x.group(3, 2), 2);
        Bench.sameBusy(x -> x.group(0, -1), BAD);
        Bench.sameBusy(x -> x.group(0, 3), BAD);
        Bench.sameBusy(x -> x.group(0, LEAST), BAD);
        Bench.sameBusy(x -> x.group(0, GREATEST), BAD);
    }

    static void p02_aloneHasNothingInCommonWithAnother() {
        due(of(3, 7).group(0, 2), NONE);
        due(of(1, 1).group(0, 2), NONE);
        due(of(3, 7).group(0, 1), 0);
    }

    static void p02_noneLeftButItself() {
        MeetingGroups x = of(3, 7, 1);
        due(x.group(0, 2), 1);
        x.out(1);
        due(x.group(0, 2), NONE);
    }

    static void p02_nothingInCommonIsNoughtNotNone() {
        due(of(2, 1, 2).group(0, 2), 0);
        due(of(2, 1, 2).group(1, 2), 0);
    }

    static void p02_theLeastOfSeveralIsInCommon() {
        due(of(4, 7, 15, 3).group(0, 2), 2);
        due(of(4, 7, 15, 3).group(1, 2), 2);
        due(of(4, 7, 15).group(1, 2), 3);
        due(of(4, 12, 15, 7).group(0, 2), 1);
    }

    static void p02_superfluousByOneAheadAndOneBehind() {
        due(of(3, 7, 3).group(0, 1), 1);
        due(of(3, 3, 7).group(1, 1), 1);
        due(of(3, 7, 3).group(1, 1), 0);
    }

    static void p02_onePartInCommonIsNotSuperfluous() {
        due(of(3, 3, 6).group(0, 1), 0);
        due(of(3, 3, 6).group(1, 1), 0);
    }

    static void p02_widestSet() {
        due(of(7, 127).group(0, 0), 127);
        due(of(7, 127, 64).group(0, 1), 1);
        due(of(7, 127, 126).group(0, 2), 6);
    }

    // ---- 3 element

    static void p03_firstElementAndOneBelow() {
        due(busy().element(0, 0), 2);
        Bench.sameBusy(x -> x.element(-1, 0), BAD);
        Bench.sameBusy(x -> x.element(LEAST, 0), BAD);
    }

    static void p03_lastElementAndOneAbove() {
        due(busy().element(3, 0), 2);
        Bench.sameBusy(x -> x.element(4, 0), BAD);
        Bench.sameBusy(x -> x.element(GREATEST, 0), BAD);
    }

    static void p03_numbersThatWouldWrapAroundInAShift() {
        Bench.sameBusy(x -> x.element(32, 0), BAD);
        Bench.sameBusy(x -> x.element(33, 1), BAD);
        Bench.sameBusy(x -> x.element(-32, 2), BAD);
        Bench.sameBusy(x -> x.element(64, 2), BAD);
    }

    static void p03_leastAndGreatestWhat() {
        Bench.sameBusy(x -> x.element(1, 0), 3);
        Bench.sameBusy(x -> x.element(1, 1), 0b1011);
        // with 1 and 0, or 2; not with 2 and 3: 0, 2, 02, 03
        Bench.sameBusy(x -> x.element(1, 2), 4);
        Bench.sameBusy(x -> x.element(0, -1), BAD);
        Bench.sameBusy(x -> x.element(0, 3), BAD);
        Bench.sameBusy(x -> x.element(0, LEAST), BAD);
        Bench.sameBusy(x -> x.element(0, GREATEST), BAD);
    }

    static void p03_noGroups() {
        for (int e = 0; e < 7; e++) {
            for (int what = 0; what < 3; what++) {
                due(of(7).element(e, what), 0);
            }
        }
    }

    static void p03_anElementThatIsNoneAnyMore() {
        MeetingGroups x = of(7, 1);
        due(x.element(6, 0), 0);
        x.size(6);
        due(x.element(6, 0), BAD);
        due(x.element(5, 0), 0);
    }

    static void p03_inAllOfTwelve() {
        MeetingGroups x = of(7, 64, 65, 66, 67, 68, 69, 70, 71, 72, 73, 74, 75);
        due(x.element(6, 0), 12);
        due(x.element(6, 1), 4095);
        due(x.element(6, 2), 64);
    }

    static void p03_oneElementAlone() {
        due(of(1, 1).element(0, 0), 1);
        due(of(1, 1).element(0, 1), 1);
        due(of(1, 1).element(0, 2), 1);
        due(of(1, 1).element(1, 2), BAD);
    }

    static void p03_anElementOfSuperfluousGroupsTurnsNothing() {
        due(of(2, 1, 3).element(1, 2), 0);
        due(of(2, 1, 3).element(1, 0), 1);
    }

    // ---- 4 count

    static void p04_leastAndGreatestWhat() {
        Bench.sameBusy(x -> x.count(0), 4);
        Bench.sameBusy(x -> x.count(8), 6);
        Bench.sameBusy(x -> x.count(-1), BAD);
        Bench.sameBusy(x -> x.count(9), BAD);
        Bench.sameBusy(x -> x.count(LEAST), BAD);
        Bench.sameBusy(x -> x.count(GREATEST), BAD);
    }

    static void p04_elementsAreOneToSeven() {
        due(of(1).count(0), 1);
        due(of(7).count(0), 7);
        Bench.sameBusy(x -> x.size(8), BAD);
        Bench.sameBusy(x -> x.size(0), BAD);
    }

    static void p04_groupsAreNoughtToTwelve() {
        due(of(4).count(1), 0);
        due(Bench.after(Bench::full).count(1), 12);
        MeetingGroups x = Bench.after(Bench::full);
        x.add(11);
        due(x.count(1), 12);
    }

    static void p04_commonNoneWithoutGroups() {
        due(of(4).count(2), NONE);
        MeetingGroups x = of(4, 3);
        x.out(3);
        due(x.count(2), NONE);
    }

    static void p04_commonOfOneAndItself() {
        due(of(7, 127).count(2), 7);
        due(of(7, 64).count(2), 1);
        // the two have 3 in common, the second one and itself 3, no less
        due(of(4, 15, 7).count(2), 3);
    }

    static void p04_commonNought() {
        due(of(3, 3, 4).count(2), 0);
        due(of(3, 1, 2).count(2), 0);
    }

    static void p04_meetWithoutGroups() {
        due(of(4).count(3), 1);
    }

    static void p04_meetIsAboveNought() {
        due(of(3, 3, 6).count(3), 1);
        due(of(3, 3, 4).count(3), 0);
        due(of(3, 4).count(3), 1);
    }

    static void p04_meetTellsOfAnyTwo() {
        due(of(4, 1, 3, 9, 4).count(3), 0);
        due(of(4, 4, 3, 9, 1).count(3), 0);
    }

    static void p04_faultsNoneWithoutGroups() {
        due(of(4).count(4), NONE);
    }

    static void p04_faultsNoughtToSix() {
        due(of(7, 127).count(4), 0);
        due(of(7, 1, 2, 4, 8, 16, 32, 64).count(4), 6);
        due(of(1, 1).count(4), 0);
    }

    static void p04_faultsTheyMayBeAnyOnes() {
        // three may fail that 3 doesn't have, but one may not
        due(of(5, 3).count(4), 0);
        due(of(5, 3, 4).count(4), 1);
    }

    static void p04_faultsAreToldThoughTheyDontMeet() {
        due(of(3, 1, 2, 4).count(4), 2);
        due(of(3, 1, 2, 4).count(2), 0);
    }

    static void p04_maskAndBorneNoneWithoutGroups() {
        due(of(4).count(5), NONE);
        due(of(4).count(6), NONE);
    }

    static void p04_maskAndBorneNoneIfTheyDontMeet() {
        due(of(3, 1, 2, 4).count(5), NONE);
        due(of(3, 1, 2, 4).count(6), NONE);
    }

    static void p04_commonOneMasksAndBearsNought() {
        MeetingGroups x = new MeetingGroups();
        Bench.told(x, "majority 5");
        due(x.count(2), 1);
        due(x.count(4), 2);
        due(x.count(5), 0);
        due(x.count(6), 0);
    }

    static void p04_commonTwoBearsOneMasksNought() {
        MeetingGroups x = new MeetingGroups();
        // what the lines of the plane leave: any two have 2 in common, any 2 may fail
        Bench.told(x, "set 7: 2456, 0356, 0146, 0125, 1236, 0234, 1345");
        due(x.count(2), 2);
        due(x.count(4), 2);
        due(x.count(5), 0);
        due(x.count(6), 1);
    }

    static void p04_commonThreeMasksOne() {
        MeetingGroups x = of(5, 15, 23, 27, 29, 30);
        due(x.count(2), 3);
        due(x.count(4), 1);
        due(x.count(5), 1);
        due(x.count(6), 1);
    }

    static void p04_maskAndBorneNoMoreThanFaults() {
        due(of(7, 127).count(5), 0);
        due(of(7, 127).count(6), 0);
        // six of seven: 5 in common would mask 2, bear 4, but only one may fail
        MeetingGroups x = of(7, 126, 125, 123, 119, 111, 95, 63);
        due(x.count(2), 5);
        due(x.count(4), 1);
        due(x.count(5), 1);
        due(x.count(6), 1);
    }

    static void p04_plansAreNoughtToFour() {
        due(of(4).count(7), 0);
        due(busy().count(7), 4);
        MeetingGroups x = busy();
        due(x.keep(3, 0, 0, 0), 4);
        due(x.count(7), 4);
    }

    static void p04_whatMayBeUndoneIsNoughtToSix() {
        MeetingGroups x = new MeetingGroups();
        for (int turn = 1; turn <= 9; turn++) {
            x.drift(1);
            due(x.count(8), Math.min(turn, 6));
        }
        for (int left = 5; left >= 0; left--) {
            x.undo();
            due(x.count(8), left);
        }
    }

    // ---- 5 load

    static void p05_leastAndGreatestWhat() {
        Bench.sameBusy(x -> x.load(0), 1);
        Bench.sameBusy(x -> x.load(1), 2);
        Bench.sameBusy(x -> x.load(-1), BAD);
        Bench.sameBusy(x -> x.load(2), BAD);
        Bench.sameBusy(x -> x.load(LEAST), BAD);
        Bench.sameBusy(x -> x.load(GREATEST), BAD);
    }

    static void p05_noGroups() {
        Bench.same(x -> x.size(4), x -> x.load(0), NONE);
        Bench.same(x -> x.size(4), x -> x.load(1), NONE);
    }

    static void p05_badAheadOfNone() {
        due(of(4).load(2), BAD);
        due(of(4).load(-1), BAD);
    }

    private static void load(MeetingGroups x, int above, int below) {
        Bench.due("above", x.load(0), above);
        Bench.due("below", x.load(1), below);
    }

    static void p05_oneGroupBearsAll() {
        load(of(1, 1), 1, 1);
        load(of(7, 127), 1, 1);
        load(of(7, 64), 1, 1);
    }

    static void p05_oneElementInAllBearsAll() {
        load(of(7, 64, 65, 66, 67, 68, 69, 70, 71, 72, 73, 74, 75), 1, 1);
    }

    static void p05_leastOfAll() {
        load(of(7, 1, 2, 4, 8, 16, 32, 64), 1, 7);
    }

    static void p05_inLowestTerms() {
        // each element is in 3 of the 6
        load(of(4, 3, 12, 5, 10, 9, 6), 1, 2);
    }

    static void p05_weightsMayBeAnyNumbers() {
        // 2, 1, 1, 1 by 5
        load(of(4, 14, 3, 5, 9), 3, 5);
        // a rim of six by 5, spokes to the seventh by 1 each: 6 of 11 anywhere
        load(of(7, 63, 65, 66, 68, 72, 80, 96), 6, 11);
    }

    static void p05_superfluousGroupsChangeNothing() {
        load(of(3, 3, 5, 6, 7), 2, 3);
    }

    private static void loadOf(String text, int above, int below) {
        MeetingGroups x = new MeetingGroups();
        Bench.told(x, text);
        load(x, above, below);
    }

    static void p05_leastAndGreatestTexts() {
        loadOf("majority 1", 1, 1);
        loadOf("majority 4", 3, 4);
        loadOf("majority 5", 3, 5);
        loadOf("grid 2*2", 3, 4);
        loadOf("grid 3*2", 2, 3);
        loadOf("wall 1,2,3", 1, 2);
        loadOf("wall 4,2,1", 1, 1);
        loadOf("plane", 3, 7);
        // a ring of five; then one apart, which takes 2 of 7, the ring 1 of 7 each
        loadOf("set 6: 01,12,23,34,04", 2, 5);
        loadOf("set 6: 01,12,23,34,04,5", 2, 7);
    }

    static void p05_theGroupGoneCountsNoMore() {
        MeetingGroups x = of(3, 1, 2, 4);
        load(x, 1, 3);
        x.out(2);
        load(x, 1, 2);
        x.out(1);
        load(x, 1, 1);
        x.out(4);
        load(x, NONE, NONE);
    }

    // ---- 6 plan

    static void p06_leastNameAndOneBelow() {
        Bench.sameBusy(x -> x.plan(0, 3), 2);
        Bench.sameBusy(x -> x.plan(-1, 3), BAD);
        Bench.sameBusy(x -> x.plan(LEAST, 0), BAD);
    }

    static void p06_greatestNameAndOneAbove() {
        Bench.sameBusy(x -> x.plan(99, 3), 3);
        Bench.sameBusy(x -> x.plan(100, 3), BAD);
        Bench.sameBusy(x -> x.plan(GREATEST, 0), BAD);
    }

    static void p06_leastAndGreatestWhat() {
        Bench.sameBusy(x -> x.plan(7, 0), 5);
        Bench.sameBusy(x -> x.plan(7, 1), 6);
        Bench.sameBusy(x -> x.plan(7, 2), 0);
        Bench.sameBusy(x -> x.plan(7, 3), 0);
        Bench.sameBusy(x -> x.plan(7, -1), BAD);
        Bench.sameBusy(x -> x.plan(7, 4), BAD);
        Bench.sameBusy(x -> x.plan(7, LEAST), BAD);
        Bench.sameBusy(x -> x.plan(7, GREATEST), BAD);
    }

    static void p06_noPlanByThatName() {
        for (int what = 0; what <= 3; what++) {
            int w = what;
            Bench.sameBusy(x -> x.plan(1, w), NONE);
            due(of(3).plan(0, what), NONE);
        }
    }

    static void p06_badAheadOfNone() {
        due(of(3).plan(100, 0), BAD);
        due(of(3).plan(0, 4), BAD);
        due(of(3).plan(0, -1), BAD);
    }

    private static MeetingGroups kept(long... weights) {
        MeetingGroups x = of(2, 1, 2, 3);
        Bench.sheet(x, 0, 2, weights);
        due(x.keep(5, 0, 2, 0), 1);
        return x;
    }

    static void p06_allWeightsNought() {
        MeetingGroups x = kept(0, 0, 0);
        due(x.plan(5, 0), NONE);
        due(x.plan(5, 1), NONE);
        due(x.plan(5, 2), NONE);
        due(x.plan(5, 3), 0);
    }

    static void p06_badAheadOfNoughtWeights() {
        due(kept(0, 0, 0).plan(5, 4), BAD);
    }

    static void p06_leastWeightAboveNought() {
        MeetingGroups x = kept(0, 1, 0);
        due(x.plan(5, 0), 1);
        due(x.plan(5, 1), 1);
        due(x.plan(5, 2), 0);
    }

    static void p06_greatestWeights() {
        MeetingGroups x = kept(99, 99, 0);
        due(x.plan(5, 0), 1);
        due(x.plan(5, 1), 2);
        due(x.plan(5, 2), 1);
    }

    static void p06_twelveGreatestWeights() {
        MeetingGroups x = of(7, 64, 65, 66, 67, 68, 69, 70, 71, 72, 73, 74, 1);
        Bench.sheet(x, 0, 0, 99, 99, 99, 99, 99, 99, 99, 99, 99, 99, 99, 98);
        due(x.keep(0, 0, 0, 0), 1);
        // 1089 of 1187
        due(x.plan(0, 0), 1089);
        due(x.plan(0, 1), 1187);
    }

    static void p06_justTheLeastLoadAndOneBeside() {
        MeetingGroups x = of(4, 14, 3, 5, 9);
        Bench.sheet(x, 0, 0, 2, 1, 1, 1, 1);
        x.keep(1, 0, 0, 0);
        x.keep(2, 0, 0, 1);
        due(x.plan(1, 0), 3);
        due(x.plan(1, 1), 5);
        due(x.plan(1, 2), 1);
        due(x.plan(2, 0), 3);
        due(x.plan(2, 1), 4);
        due(x.plan(2, 2), 0);
    }

    static void p06_theLoadIsInLowestTerms() {
        MeetingGroups x = of(4, 14, 3, 5, 9);
        Bench.sheet(x, 0, 0, 66, 33, 33, 33);
        x.keep(1, 0, 0, 0);
        due(x.plan(1, 0), 3);
        due(x.plan(1, 1), 5);
        due(x.plan(1, 2), 1);
    }

    static void p06_aGroupThatHadNoWeightBearsNought() {
        MeetingGroups x = of(3, 1, 2);
        Bench.sheet(x, 0, 0, 1, 1, 1);
        x.keep(1, 0, 0, 0);
        due(x.plan(1, 2), 1);
        x.add(4);
        due(x.plan(1, 0), 1);
        due(x.plan(1, 1), 2);
        due(x.plan(1, 2), 0);
    }

    static void p06_onlyGroupsWithoutWeightAreLeft() {
        MeetingGroups x = of(3, 1);
        Bench.sheet(x, 0, 0, 9);
        x.keep(1, 0, 0, 0);
        x.add(2);
        x.out(1);
        due(x.plan(1, 0), NONE);
        due(x.plan(1, 2), NONE);
        due(x.plan(1, 3), 0);
    }

    static void p06_ofOneThatIsNoGroupAnyMoreCountsNothing() {
        MeetingGroups x = of(3, 1, 2, 4);
        Bench.sheet(x, 0, 0, 1, 2, 3);
        x.keep(1, 0, 0, 0);
        x.out(4);
        due(x.plan(1, 0), 2);
        due(x.plan(1, 1), 3);
    }

    static void p06_weightsStayWithTheirGroupsAsPlacesChange() {
        MeetingGroups x = of(3, 1, 2, 4);
        Bench.sheet(x, 0, 0, 1, 2, 4);
        x.keep(1, 0, 0, 0);
        x.out(1);
        due(x.plan(1, 0), 2);
        due(x.plan(1, 1), 3);
        x.add(1);
        Bench.groups(x, 2, 4, 1);
        due(x.plan(1, 0), 4);
        due(x.plan(1, 1), 7);
    }

    static void p06_noGroupsAnyMore() {
        MeetingGroups x = of(3, 1);
        Bench.sheet(x, 0, 0, 9);
        x.keep(1, 0, 0, 0);
        x.out(1);
        for (int what = 0; what < 3; what++) {
            due(x.plan(1, what), NONE);
        }
        due(x.plan(1, 3), 0);
        due(x.count(7), 1);
    }

    /** Four plans, each kept for another group; the weights are their names. */
    private static void ofOthers(MeetingGroups x) {
        x.size(4);
        Bench.sheet(x, 0, 0, 1, 2, 3, 4);
        for (int name = 1; name <= 4; name++) {
            x.add(1 << name - 1);
            x.keep(name, 0, 0, name - 1);
            x.out(1 << name - 1);
        }
    }

    /** Names of the plans that bear something, if a set is the only group. */
    private static int bearers(MeetingGroups x, int set) {
        x.add(set);
        int names = 0;
        for (int name = 1; name <= 5; name++) {
            names += x.plan(name, 0) == 1 ? 1 << name : 0;
        }
        x.out(set);
        return names;
    }

    static void p06_eachPlanHasItsOwnGroups() {
        MeetingGroups x = Bench.after(BoundaryGroupsTest::ofOthers);
        for (int name = 1; name <= 4; name++) {
            due(bearers(x, 1 << name - 1), 1 << name);
        }
        due(bearers(x, 3), 0);
    }

    static void p06_eachHasItsOwnGroupsAsOneIsLostOrKeptAgain() {
        MeetingGroups x = Bench.after(BoundaryGroupsTest::ofOthers);
        x.add(8);
        x.keep(2, 0, 0, 0);
        x.out(8);
        due(bearers(x, 1), 1 << 1);
        due(bearers(x, 2), 0);
        due(bearers(x, 4), 1 << 3);
        due(bearers(x, 8), 1 << 2 | 1 << 4);
        x.add(2);
        x.keep(5, 0, 0, 0);
        x.out(2);
        due(bearers(x, 1), 0);
        due(bearers(x, 2), 1 << 5);
        due(bearers(x, 4), 1 << 3);
        due(bearers(x, 8), 1 << 2 | 1 << 4);
    }

    static void p06_eachHasItsOwnGroupsAfterAnImageAndUndone() {
        MeetingGroups x = Bench.after(BoundaryGroupsTest::ofOthers);
        x.image();
        x.add(15);
        x.keep(1, 0, 0, 0);
        x.out(15);
        due(bearers(x, 1), 0);
        due(bearers(x, 15), 1 << 1);
        x.restore();
        x.add(15);
        x.keep(1, 0, 0, 0);
        due(x.undo(), 5);
        due(x.undo(), 4);
        due(bearers(x, 1), 1 << 1);
        due(bearers(x, 15), 0);
        x.restore();
        due(bearers(x, 2), 1 << 2);
        due(bearers(x, 8), 1 << 4);
    }

    static void p06_howManyAheadIsNoughtToThree() {
        MeetingGroups x = busy();
        int[] names = {7, 50, 0, 99};
        for (int p = 0; p < 4; p++) {
            due(x.plan(names[p], 3), p);
        }
        x.keep(1, 0, 0, 0);
        due(x.plan(7, 3), NONE);
        due(x.plan(50, 3), 0);
        due(x.plan(1, 3), 3);
    }

    static void p06_oneKeptAgainIsNoLongerAhead() {
        MeetingGroups x = busy();
        x.keep(7, 0, 0, 0);
        due(x.plan(50, 3), 0);
        due(x.plan(0, 3), 1);
        due(x.plan(99, 3), 2);
        due(x.plan(7, 3), 3);
        due(x.count(7), 4);
    }
}
