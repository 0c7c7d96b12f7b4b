/** Boundary cases of promise 15, a test for each sentence about texts; quiet(), busy() are told in Bench. */
public final class BoundaryTextTest {
    private static final int NONE = Bench.NONE;

    public static void main(String[] args) {
        Bench.runAll(BoundaryTextTest.class, 15);
    }

    private static void due(int got, int want) {
        Bench.due(got, want);
    }

    /** A fault at a place: the tape is empty then, all else stays. */
    private static void fault(String text, int place) {
        Bench.alike(Bench::quiet, x -> {
            Bench.quiet(x);
            Bench.due("'" + text + "'", Bench.told(x, text), -20 - place);
        });
    }

    /** A text that stands: n and groups are told, the tape is empty, it may be undone, plans and the draw stay. */
    private static void stands(String text, int n, int... groups) {
        MeetingGroups x = Bench.after(Bench::quiet);
        Bench.due("'" + text + "'", Bench.told(x, text), groups.length);
        Bench.due("n of '" + text + "'", x.count(0), n);
        Bench.groups(x, groups);
        due(x.count(7), 4);
        due(x.count(8), 6);
        due(x.seed(77), 77);
        due(x.type(' '), 1);
        due(x.undo(), 5);
        due(x.count(0), 4);
        Bench.groups(x, 3, 6, 12, 15);
    }

    // ---- the tape

    static void p15_anEmptyText() {
        fault("", 0);
        due(new MeetingGroups().read(), -20);
    }

    static void p15_aTextOfBlanks() {
        fault(" ", 1);
        fault("     ", 5);
    }

    static void p15_ninetyBlanks() {
        fault(" ".repeat(90), 90);
    }

    static void p15_ninetyLettersTheLastOfThemCounts() {
        stands(" ".repeat(85) + "plane", 7, 11, 22, 44, 88, 49, 98, 69);
        fault(" ".repeat(84) + "plane,", 89);
        fault(" ".repeat(86) + "wall", 90);
        fault("plane" + " ".repeat(84) + "x", 89);
        fault("a".repeat(90), 0);
    }

    static void p15_theTapeIsEmptyThen() {
        MeetingGroups x = Bench.after(Bench::busy);
        due(x.read(), 2);
        due(x.read(), -20);
        due(x.type('s'), 1);
    }

    static void p15_theTapeIsEmptyByAFaultToo() {
        MeetingGroups x = new MeetingGroups();
        due(Bench.told(x, "nothing"), -20);
        due(x.read(), -20);
        due(x.type('p'), 1);
        due(Bench.told(x, "lane"), 7);
    }

    static void p15_aTextThatTellsWhatThereIsMayBeUndone() {
        MeetingGroups x = new MeetingGroups();
        due(Bench.told(x, "set 3"), 0);
        due(x.count(8), 1);
        due(x.undo(), 0);
        due(x.undo(), NONE);
    }

    static void p15_plansStay() {
        MeetingGroups x = Bench.after(Bench::quiet);
        due(Bench.told(x, "set 4: 12, 01"), 2);
        due(x.count(7), 4);
        // 1 on 0011, 2 on 0110: the second element bears both
        due(x.plan(7, 0), 1);
        due(x.plan(7, 1), 1);
        due(x.plan(7, 3), 0);
        due(Bench.told(x, "set 4: 23, 01, 0"), 3);
        // 3 on 1100, 1 on 0011, nothing on 0001
        due(x.plan(7, 0), 3);
        due(x.plan(7, 1), 4);
        due(Bench.told(x, "set 1"), 0);
        due(x.plan(7, 0), NONE);
        due(x.plan(7, 3), 0);
    }

    // ---- names

    static void p15_aNameThatIsNoneOfThese() {
        fault("a", 0);
        fault("  majorit 3", 2);
        fault("majorityy 3", 0);
        fault("gri 1*1", 0);
        fault("wal 1", 0);
        fault("plan", 0);
        fault(" planes", 1);
        fault("se 3", 0);
        fault("sett 3", 0);
        fault("setwall 3", 0);
    }

    static void p15_aNameOfWhichOneLetterIsAnother() {
        fault("najority 3", 0);
        fault("majoritx 3", 0);
        fault("brid 1*1", 0);
        fault("tall 1", 0);
        fault("blane", 0);
        fault("plans", 0);
        fault("get 3", 0);
        fault("sex 3", 0);
    }

    static void p15_theLastLetterOfTheAlphabetIsOneOfAName() {
        fault("z", 0);
        fault("planez", 0);
        fault(" zplane", 1);
        fault("setz 3", 0);
    }

    static void p15_aFirstLetterThatIsNoneOfAName() {
        fault("3", 0);
        fault("  Plane", 2);
        fault("PLANE", 0);
        fault(":", 0);
        fault("`plane", 0);
        fault("{plane", 0);
    }

    static void p15_blanksEndAName() {
        fault("pl ane", 0);
        fault("s et 3", 0);
        fault(" w all 3", 1);
    }

    static void p15_aNameEndsAheadOfOtherSigns() {
        fault("planE", 0);
        fault("planeS", 5);
        fault("plane`", 5);
        fault("plane{", 5);
        fault("majority:", 8);
        stands("majority1", 1, 1);
        stands("set7", 7);
    }

    static void p15_blanksCountForNothing() {
        stands("   majority   2   ", 2, 3);
        stands(" grid 1 * 2 ", 2, 3);
        stands(" wall 1 , 1 ", 2, 3, 2);
        stands(" set 3 : 01 , 2 ", 3, 3, 4);
        stands("set3:01,2", 3, 3, 4);
    }

    // ---- majority

    static void p15_leastMajorityAndOneBelow() {
        stands("majority 1", 1, 1);
        fault("majority 0", 9);
    }

    static void p15_greatestMajorityAndOneAbove() {
        stands("majority 5", 5, 7, 11, 13, 14, 19, 21, 22, 25, 26, 28);
        fault("majority 6", 9);
        fault("majority 9", 9);
    }

    static void p15_majorityOfAnEvenNumberIsMoreThanHalf() {
        stands("majority 2", 2, 3);
        stands("majority 4", 4, 7, 11, 13, 14);
    }

    static void p15_majorityWithoutAFigure() {
        fault("majority", 8);
        fault("majority  ", 10);
        fault("majority *", 9);
        fault("majority /", 9);
    }

    static void p15_moreBehindAMajority() {
        fault("majority 3 3", 11);
        fault("majority 33", 10);
        fault("majority 3,", 10);
        fault("majority 3 plane", 11);
    }

    // ---- grid

    static void p15_leastGridAndOneBelow() {
        stands("grid 1*1", 1, 1);
        fault("grid 0*1", 5);
        fault("grid 1*0", 7);
    }

    static void p15_greatestFiguresOfAGridAndOneAbove() {
        stands("grid 4*1", 4, 15);
        stands("grid 1*4", 4, 15);
        fault("grid 5*1", 5);
        fault("grid 1*5", 7);
        fault("grid 7*1", 5);
        fault("grid 1*7", 7);
    }

    static void p15_mostElementsOfAGridAndMore() {
        stands("grid 3*2", 6, 15, 23, 39, 57, 58, 60);
        stands("grid 2*3", 6, 23, 43, 29, 46, 53, 58);
        fault("grid 2*4", 7);
        fault("grid 4*2", 7);
        fault("grid 3*3", 7);
        fault("grid 4 * 4", 9);
        fault("grid 2*4 x", 7);
    }

    static void p15_whatComesTwiceInAGridIsThereOnce() {
        stands("grid 2*1", 2, 3);
        stands("grid 1*2", 2, 3);
        stands("grid 3*1", 3, 7);
        stands("grid 2*2", 4, 7, 11, 13, 14);
    }

    static void p15_aGridThatEndsEarly() {
        fault("grid", 4);
        fault("grid 2", 6);
        fault("grid 2 ", 7);
        fault("grid 2*", 7);
        fault("grid 2* ", 8);
        fault("grid *2", 5);
        fault("grid 2,2", 6);
        fault("grid 22", 6);
        fault("grid 2**2", 7);
    }

    static void p15_moreBehindAGrid() {
        fault("grid 2*2*1", 8);
        fault("grid 2*22", 8);
        fault("grid 2*2 , 3", 9);
    }

    // ---- wall

    static void p15_leastFigureOfAWallAndOneBelow() {
        stands("wall 1", 1, 1);
        stands("wall 1,1,1", 3, 7, 6, 4);
        fault("wall 0", 5);
        fault("wall 1,0", 7);
        fault("wall 1,1,0", 9);
    }

    static void p15_greatestFigureOfAWallAndOneAbove() {
        stands("wall 4", 4, 15);
        stands("wall 1,4", 5, 3, 5, 9, 17, 30);
        fault("wall 5", 5);
        fault("wall 1,5", 7);
        fault("wall 1,1,5", 9);
    }

    static void p15_sevenTogetherAndOneMore() {
        stands("wall 4,3", 7, 31, 47, 79, 112);
        stands("wall 3,4", 7, 15, 23, 39, 71, 120);
        fault("wall 4,4", 7);
        fault("wall 4,2,2", 9);
        stands("wall 4,2,1", 7, 95, 111, 112, 64);
        fault("wall 4,3,1", 9);
        fault("wall 4,3, 1", 10);
    }

    static void p15_threeRowsAndOneMore() {
        stands("wall 2,2,2", 6, 23, 39, 27, 43, 28, 44, 48);
        fault("wall 1,1,1,1", 10);
        fault("wall 1,1,1,", 10);
        fault("wall 1,1,1 ,", 11);
    }

    static void p15_aWallThatEndsEarly() {
        fault("wall", 4);
        fault("wall ", 5);
        fault("wall ,", 5);
        fault("wall 1,", 7);
        fault("wall 1, ", 8);
        fault("wall 1,,1", 7);
        fault("wall 1,1,", 9);
        fault("wall 4,3,", 9);
    }

    static void p15_moreBehindAWall() {
        fault("wall 12", 6);
        fault("wall 1 2", 7);
        fault("wall 1:2", 6);
        fault("wall 1,1,1x", 10);
    }

    static void p15_twelveGroupsOfAWallAndMore() {
        // 8 and 4 and 1 are 13; 6, 2, 1 are 9; 8, 2, 1 are 11; 6, 3, 1 are 10; 9, 3, 1 are 13
        fault("wall 1,2,4", 0);
        stands("wall 1,3,2", 6, 19, 35, 21, 37, 25, 41, 30, 46, 48);
        stands("wall 1,4,2", 7, 35, 67, 37, 69, 41, 73, 49, 81, 62, 94, 96);
        stands("wall 1,2,3", 6, 11, 19, 35, 13, 21, 37, 14, 22, 38, 56);
        fault("wall 1,3,3", 0);
    }

    static void p15_tooManyGroupsIsToldAtTheFirstLetter() {
        fault("   wall 1,3,3", 3);
        fault(" wall 1 , 2 , 4 ", 1);
    }

    static void p15_tooManyGroupsOnlyIfAllElseCanStand() {
        fault("wall 1,3,3,", 10);
        fault("wall 1,2,4 x", 11);
        fault("wall 1,3,4", 9);
    }

    static void p15_eachTextIsReadAnew() {
        MeetingGroups x = new MeetingGroups();
        due(Bench.told(x, "wall 4,3"), 4);
        due(Bench.told(x, "wall 4,3"), 4);
        due(Bench.told(x, "wall 4,3,1"), -29);
        due(Bench.told(x, "wall 1"), 1);
        due(x.count(0), 1);
        Bench.groups(x, 1);
        due(Bench.told(x, TWELVE + ",06"), -55);
        due(Bench.told(x, "set 7:06"), 1);
        Bench.groups(x, 65);
        due(Bench.told(x, "set 7:06,0"), 2);
        Bench.groups(x, 65, 1);
    }

    // ---- plane

    static void p15_planeStandsAlone() {
        stands("plane", 7, 11, 22, 44, 88, 49, 98, 69);
        fault("plane 7", 6);
        fault("plane plane", 6);
        fault("plane,", 5);
        fault("plane:", 5);
    }

    // ---- set

    static void p15_leastSizeOfASetAndOneBelow() {
        stands("set 1", 1);
        stands("set 1:0", 1, 1);
        fault("set 0", 4);
    }

    static void p15_greatestSizeOfASetAndOneAbove() {
        stands("set 7", 7);
        stands("set 7:6", 7, 64);
        stands("set 7:0123456", 7, 127);
        fault("set 8", 4);
        fault("set 9:0", 4);
    }

    static void p15_aSetThatEndsEarly() {
        fault("set", 3);
        fault("set ", 4);
        fault("set :", 4);
        fault("set 3:", 6);
        fault("set 3: ", 7);
        fault("set 3:,", 6);
        fault("set 3:0,", 8);
        fault("set 3:0, ", 9);
        fault("set 3:0,,1", 8);
    }

    static void p15_otherSignsInASet() {
        fault("set 3,0", 5);
        fault("set 33", 5);
        fault("set 3 3", 6);
        fault("set 3:a", 6);
        fault("set 3:0a", 7);
        fault("set 3:0;1", 7);
        fault("set 3:/", 6);
        fault("set 3::0", 6);
        fault("set 3:0:", 7);
    }

    static void p15_theGreatestElementAndOneThatIsNone() {
        stands("set 3:2", 3, 4);
        fault("set 3:3", 6);
        fault("set 3:013", 8);
        fault("set 3:0,3", 8);
        fault("set 7:7", 6);
        fault("set 7:9", 6);
        fault("set 1:1", 6);
    }

    static void p15_anElementThatTheGroupHas() {
        fault("set 3:00", 7);
        fault("set 3:010", 8);
        fault("set 3:0,11", 9);
        fault("set 3:0100", 8);
    }

    static void p15_blanksEndFiguresOfAGroup() {
        fault("set 3:0 1", 8);
        fault("set 3:0  1", 9);
        fault("set 3:0 0", 8);
        fault("set 3:0 ,1 2", 11);
    }

    static void p15_theLetterBehindAGroupThatCameAhead() {
        fault("set 3:0,0", 9);
        fault("set 3:0,0 ", 10);
        fault("set 3:0,0,1", 9);
        fault("set 3:0,0 ,1", 10);
        fault("set 3:01,10", 11);
        fault("set 3:01,2,10,1", 13);
        fault("set 3:01,10x", 11);
        fault("set 3:0,0 1", 10);
        stands("set 3:0,01", 3, 1, 3);
        stands("set 3:01,0,1", 3, 3, 1, 2);
    }

    static void p15_aGroupThatWasOneAheadOfTheTextIsNoFault() {
        stands("set 4:01,12,23,0123", 4, 3, 6, 12, 15);
    }

    private static final String TWELVE = "set 7:0,1,2,3,4,5,6,01,02,03,04,05";

    static void p15_twelveGroupsAndTheFirstFigureOfOneMore() {
        stands(TWELVE, 7, 1, 2, 4, 8, 16, 32, 64, 3, 5, 9, 17, 33);
        fault(TWELVE + ",06", 35);
        fault(TWELVE + ", 06", 36);
        fault(TWELVE + " , 06", 37);
        fault(TWELVE + ",0", 35);
        fault(TWELVE + ",7", 35);
    }

    static void p15_twelveGroupsAndASignBehind() {
        fault(TWELVE + ",", 35);
        fault(TWELVE + ", ", 36);
        fault(TWELVE + ",,", 35);
        fault(TWELVE + "x", 34);
        fault(TWELVE + " 6", 35);
    }

    static void p15_theTwelfthGroupCameAhead() {
        fault("set 7:0,1,2,3,4,5,6,01,02,03,04,0,05", 33);
    }

    static void p15_groupsComeInTheOrderTold() {
        stands("set 7:6,0,3,50", 7, 64, 1, 8, 33);
    }

    static void p15_sizeIsTold() {
        MeetingGroups x = Bench.of(7, 64);
        due(Bench.told(x, "set 2"), 0);
        due(x.count(0), 2);
        due(x.element(2, 0), Bench.BAD);
        due(x.undo(), 2);
        due(x.count(0), 7);
        Bench.groups(x, 64);
    }
}
