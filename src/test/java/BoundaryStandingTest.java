/** Boundary cases of promises 7 to 10, a test for each sentence; busy() is told in Bench. */
public final class BoundaryStandingTest {
    private static final int BAD = Bench.BAD, NONE = Bench.NONE, LEAST = Bench.LEAST, GREATEST = Bench.GREATEST;

    public static void main(String[] args) {
        Bench.runAll(BoundaryStandingTest.class, 7, 8, 9, 10);
    }

    private static void due(int got, int want) {
        Bench.due(got, want);
    }

    private static MeetingGroups of(int n, int... groups) {
        return Bench.of(n, groups);
    }

    // ---- 7 standing

    static void p07_noughtElementsAndOneBelow() {
        Bench.sameBusy(x -> x.standing(0), 0);
        Bench.sameBusy(x -> x.standing(-1), BAD);
        Bench.sameBusy(x -> x.standing(LEAST), BAD);
    }

    static void p07_allElementsAndOneAbove() {
        Bench.sameBusy(x -> x.standing(4), 1);
        Bench.sameBusy(x -> x.standing(5), BAD);
        Bench.sameBusy(x -> x.standing(GREATEST), BAD);
    }

    static void p07_sevenElementsAndOneAbove() {
        due(of(7, 127).standing(7), 1);
        due(of(7, 127).standing(6), 0);
        due(of(7, 127).standing(8), BAD);
    }

    static void p07_oneElement() {
        due(of(1, 1).standing(0), 0);
        due(of(1, 1).standing(1), 1);
        due(of(1, 1).standing(2), BAD);
    }

    static void p07_noGroups() {
        for (int k = 0; k <= 7; k++) {
            due(of(7).standing(k), 0);
        }
        due(of(7).standing(8), BAD);
    }

    static void p07_asManyAsThereAre() {
        int[] sets = {0, 7, 21, 35, 35, 21, 7, 1};
        for (int k = 0; k <= 7; k++) {
            due(of(7, 1, 2, 4, 8, 16, 32, 64).standing(k), sets[k]);
        }
    }

    static void p07_bySizeAsItIsNow() {
        MeetingGroups x = of(7, 1);
        due(x.standing(7), 1);
        due(x.standing(2), 6);
        x.size(2);
        due(x.standing(2), 1);
        due(x.standing(3), BAD);
        x.size(3);
        due(x.standing(2), 2);
        due(x.standing(3), 1);
    }

    static void p07_aSetThatHoldsSeveralCountsOnce() {
        due(of(3, 1, 2, 3).standing(2), 3);
        due(of(3, 1, 2, 3).standing(3), 1);
    }

    // ---- 8 stands

    static void p08_leastChanceAndOneBelow() {
        Bench.sameBusy(x -> x.stands(0, 0), 1);
        Bench.sameBusy(x -> x.stands(0, 1), 1);
        Bench.sameBusy(x -> x.stands(-1, 0), BAD);
        Bench.sameBusy(x -> x.stands(LEAST, 1), BAD);
    }

    static void p08_greatestChanceAndOneAbove() {
        Bench.sameBusy(x -> x.stands(10, 0), 0);
        Bench.sameBusy(x -> x.stands(10, 1), 1);
        Bench.sameBusy(x -> x.stands(11, 0), BAD);
        Bench.sameBusy(x -> x.stands(GREATEST, 1), BAD);
    }

    static void p08_leastAndGreatestWhat() {
        // three of 2, three and two of 3, one of 4: 8 of 16
        Bench.sameBusy(x -> x.stands(5, 0), 1);
        Bench.sameBusy(x -> x.stands(5, 1), 2);
        Bench.sameBusy(x -> x.stands(5, -1), BAD);
        Bench.sameBusy(x -> x.stands(5, 2), BAD);
        Bench.sameBusy(x -> x.stands(5, LEAST), BAD);
        Bench.sameBusy(x -> x.stands(5, GREATEST), BAD);
    }

    static void p08_noGroupsIsNoughtByOne() {
        for (int c = 0; c <= 10; c++) {
            due(of(7).stands(c, 0), 0);
            due(of(7).stands(c, 1), 1);
        }
    }

    static void p08_noughtAboveIsOneBelow() {
        due(of(7, 1, 2, 4, 8, 16, 32, 64).stands(10, 0), 0);
        due(of(7, 1, 2, 4, 8, 16, 32, 64).stands(10, 1), 1);
    }

    static void p08_neverFails() {
        due(of(7, 127).stands(0, 0), 1);
        due(of(7, 127).stands(0, 1), 1);
    }

    static void p08_oneElementByEachChance() {
        int[] above = {1, 9, 4, 7, 3, 1, 2, 3, 1, 1, 0};
        int[] below = {1, 10, 5, 10, 5, 2, 5, 10, 5, 10, 1};
        for (int c = 0; c <= 10; c++) {
            due(of(1, 1).stands(c, 0), above[c]);
            due(of(1, 1).stands(c, 1), below[c]);
        }
    }

    static void p08_greatestNumberBelow() {
        due(of(7, 127).stands(9, 0), 1);
        due(of(7, 127).stands(9, 1), 10000000);
        due(of(7, 127).stands(1, 0), 4782969);
        due(of(7, 127).stands(1, 1), 10000000);
        due(of(7, 1, 2, 4, 8, 16, 32, 64).stands(1, 0), 9999999);
        due(of(7, 1, 2, 4, 8, 16, 32, 64).stands(1, 1), 10000000);
    }

    static void p08_elementsOfNoGroupDontMatter() {
        due(of(7, 1).stands(3, 0), 7);
        due(of(7, 1).stands(3, 1), 10);
    }

    // ---- 9 free

    static void p09_leastAndGreatestWhat() {
        // 0011, 0110, 1100: 0101 meets all, 1010, too
        Bench.sameBusy(x -> x.free(0), 2);
        Bench.sameBusy(x -> x.free(1), 5);
        Bench.sameBusy(x -> x.free(-1), BAD);
        Bench.sameBusy(x -> x.free(2), BAD);
        Bench.sameBusy(x -> x.free(LEAST), BAD);
        Bench.sameBusy(x -> x.free(GREATEST), BAD);
    }

    static void p09_noGroupsAllSetsAreFree() {
        due(of(1).free(0), 2);
        due(of(1).free(1), 0);
        due(of(7).free(0), 128);
        due(of(7).free(1), 0);
    }

    static void p09_noneIsFree() {
        due(of(1, 1).free(0), 0);
        due(of(1, 1).free(1), NONE);
        due(of(7, 64).free(0), 0);
        due(of(7, 64).free(1), NONE);
    }

    static void p09_badAheadOfNone() {
        due(of(1, 1).free(2), BAD);
    }

    static void p09_theEmptySetMeetsNoGroup() {
        // of one group of 7: all sets of some of its elements, but not all
        due(of(7, 127).free(0), 126);
        due(of(7, 127).free(1), 1);
    }

    static void p09_theLeastAsANumber() {
        due(of(7, 96).free(1), 32);
        due(of(7, 96).free(0), 64);
    }

    // ---- 10 probe

    static void p10_leastSetsAndOneBelow() {
        Bench.sameBusy(x -> x.probe(0, 0, 0), 3);
        Bench.sameBusy(x -> x.probe(-1, 0, 0), BAD);
        Bench.sameBusy(x -> x.probe(0, -1, 0), BAD);
        Bench.sameBusy(x -> x.probe(LEAST, 0, 0), BAD);
        Bench.sameBusy(x -> x.probe(0, LEAST, 0), BAD);
    }

    static void p10_greatestSetsAndOneAbove() {
        Bench.sameBusy(x -> x.probe(15, 0, 0), 0);
        Bench.sameBusy(x -> x.probe(0, 15, 0), 0);
        Bench.sameBusy(x -> x.probe(16, 0, 0), BAD);
        Bench.sameBusy(x -> x.probe(0, 16, 0), BAD);
        Bench.sameBusy(x -> x.probe(GREATEST, 0, 0), BAD);
        Bench.sameBusy(x -> x.probe(0, GREATEST, 0), BAD);
    }

    static void p10_sevenElementsAndOneAbove() {
        due(of(7, 127).probe(126, 0, 0), 1);
        due(of(7, 127).probe(126, 0, 1), 0);
        due(of(7, 127).probe(127, 0, 0), 0);
        due(of(7, 127).probe(128, 0, 0), BAD);
        due(of(7, 127).probe(0, 128, 0), BAD);
    }

    static void p10_leastAndGreatestWhat() {
        // 0 first: if it's well, 1 or both 2 and 3 are needed, which takes 3 more; 1 first: 2 more, either way
        Bench.sameBusy(x -> x.probe(0, 0, 1), 1);
        Bench.sameBusy(x -> x.probe(0, 0, -1), BAD);
        Bench.sameBusy(x -> x.probe(0, 0, 2), BAD);
        Bench.sameBusy(x -> x.probe(0, 0, LEAST), BAD);
        Bench.sameBusy(x -> x.probe(0, 0, GREATEST), BAD);
    }

    static void p10_somethingInCommon() {
        Bench.sameBusy(x -> x.probe(1, 1, 0), BAD);
        Bench.sameBusy(x -> x.probe(9, 8, 1), BAD);
        Bench.sameBusy(x -> x.probe(15, 15, 0), BAD);
        Bench.sameBusy(x -> x.probe(1, 14, 0), 0);
    }

    static void p10_somethingInCommonThoughItIsOver() {
        due(of(3, 1).probe(3, 2, 0), BAD);
        due(of(3).probe(1, 1, 1), BAD);
    }

    static void p10_overByOnesThatAreWell() {
        Bench.sameBusy(x -> x.probe(3, 0, 0), 0);
        Bench.sameBusy(x -> x.probe(3, 0, 1), NONE);
        Bench.sameBusy(x -> x.probe(3, 12, 1), NONE);
    }

    static void p10_overByOnesThatFailed() {
        Bench.sameBusy(x -> x.probe(0, 6, 0), 0);
        Bench.sameBusy(x -> x.probe(0, 6, 1), NONE);
        Bench.sameBusy(x -> x.probe(9, 6, 1), NONE);
    }

    static void p10_oneShortOfBeingOver() {
        Bench.sameBusy(x -> x.probe(2, 12, 0), 1);
        Bench.sameBusy(x -> x.probe(2, 12, 1), 0);
        Bench.sameBusy(x -> x.probe(8, 3, 0), 1);
        Bench.sameBusy(x -> x.probe(8, 3, 1), 2);
    }

    static void p10_noGroupsItIsOver() {
        due(of(7).probe(0, 0, 0), 0);
        due(of(7).probe(0, 0, 1), NONE);
        due(of(7).probe(1, 2, 0), 0);
        due(of(7).probe(128, 0, 0), BAD);
    }

    static void p10_allAreKnown() {
        due(of(3, 3).probe(5, 2, 0), 0);
        due(of(3, 3).probe(5, 2, 1), NONE);
        due(of(3, 3).probe(3, 4, 0), 0);
    }

    static void p10_oneElement() {
        due(of(1, 1).probe(0, 0, 0), 1);
        due(of(1, 1).probe(0, 0, 1), 0);
        due(of(1, 1).probe(1, 0, 0), 0);
        due(of(1, 1).probe(0, 1, 0), 0);
        due(of(1, 1).probe(2, 0, 0), BAD);
    }

    static void p10_mostProbes() {
        due(of(7, 127).probe(0, 0, 0), 7);
        due(of(7, 1, 2, 4, 8, 16, 32, 64).probe(0, 0, 0), 7);
        due(of(7, 127).probe(0, 0, 1), 0);
    }

    static void p10_theLeastElementThatIsABestOne() {
        // 0 may be probed in vain; it takes 2 by 5 or 6
        due(of(7, 96).probe(0, 0, 0), 2);
        due(of(7, 96).probe(0, 0, 1), 5);
        due(of(7, 96).probe(31, 0, 1), 5);
        due(of(7, 96).probe(0, 31, 1), 5);
        due(of(7, 96).probe(32, 0, 1), 6);
    }

    static void p10_askedAgainAllIsAnew() {
        MeetingGroups x = of(3, 3);
        due(x.probe(0, 0, 0), 2);
        due(x.probe(1, 0, 0), 1);
        due(x.probe(0, 0, 0), 2);
        x.add(4);
        due(x.probe(0, 0, 0), 3);
        x.size(7);
        due(x.probe(0, 0, 0), 3);
    }
}
