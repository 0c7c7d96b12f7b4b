/** Each promise by answers that were worked out by hand: ordinary inputs, edges, wrong inputs. */
public final class PromiseTest {
    private static final int BAD = -1, NOT = -2, FULL = -3, NONE = -4, NULL = -11, CAST = -12, INDEX = -13, SIZE = -14;
    private static int wrong = 0;
    private static int asked = 0;

    private static void due(String what, int got, int want) {
        asked++;
        if (got != want) {
            wrong++;
            System.out.println(what + " answered " + got + ", due is " + want);
        }
    }

    private static void row(String what, MeetingGroups x, int... groups) {
        due(what + ": how many", x.count(1), groups.length);
        for (int k = 0; k < groups.length; k++) {
            due(what + ": group " + k, x.group(k, 0), groups[k]);
        }
        due(what + ": no more", x.group(groups.length, 0), BAD);
    }

    private static MeetingGroups of(int n, int... groups) {
        MeetingGroups x = new MeetingGroups();
        x.size(n);
        for (int g : groups) {
            x.add(g);
        }
        return x;
    }

    private static int told(MeetingGroups x, String text) {
        for (int i = 0; i < text.length(); i++) {
            due("type of " + text, x.type(text.charAt(i)), i + 1);
        }
        return x.read();
    }

    private static void sheet(MeetingGroups x, int sheet, int lane, long... items) {
        due("sheet", x.sheet(sheet, lane, items.length), items.length);
        for (int i = 0; i < items.length; i++) {
            due("item", x.item(sheet, lane, i, items[i]), 1);
        }
    }

    private static void promise1() {
        MeetingGroups x = new MeetingGroups();
        due("1 n", x.count(0), 3);
        due("1 groups", x.count(1), 0);
        due("1 plans", x.count(7), 0);
        due("1 undone", x.count(8), 0);
        due("1 draw", x.seed(5), 1);
        due("1 restore", x.restore(), NONE);
        due("1 tape", x.type('a'), 1);
        for (int s = 0; s < 4; s++) {
            due("1 sheet", x.drop(s), NULL);
        }
        MeetingGroups y = new MeetingGroups();
        x.add(1);
        due("1 objects apart", y.count(1), 0);
    }

    private static void promise2() {
        MeetingGroups x = of(5, 0b00111, 0b11100);
        due("2 set", x.group(1, 0), 0b11100);
        due("2 not superfluous", x.group(0, 1), 0);
        due("2 common", x.group(0, 2), 1);
        x.add(0b00100);
        due("2 superfluous", x.group(0, 1), 1);
        due("2 superfluous", x.group(1, 1), 1);
        due("2 part of others", x.group(2, 1), 0);
        x.add(0b00011);
        due("2 common 0", x.group(2, 2), 0);
        due("2 common 0", x.group(3, 2), 0);
        due("2 common", x.group(0, 2), 1);
        due("2 k", x.group(4, 0), BAD);
        due("2 k", x.group(-1, 0), BAD);
        due("2 what", x.group(0, 3), BAD);
        due("2 what", x.group(0, -1), BAD);
        MeetingGroups first = of(3, 1, 6, 7);
        due("2 first and last", first.group(2, 2), 1);
        due("2 first and last", first.group(1, 2), 0);
        MeetingGroups one = of(7, 127);
        due("2 alone", one.group(0, 2), NONE);
        due("2 alone", one.group(0, 1), 0);
        due("2 wide", one.group(0, 0), 127);
    }

    private static void promise3() {
        MeetingGroups x = of(4, 0b0011, 0b0110, 0b1000);
        due("3 how many", x.element(1, 0), 2);
        due("3 which", x.element(1, 1), 0b011);
        due("3 which", x.element(3, 1), 0b100);
        // with 1 a set needs 0 or 2, and no 3
        due("3 turned", x.element(1, 2), 3);
        // 0 needs 1, neither 2 nor 3
        due("3 turned", x.element(0, 2), 1);
        // 3 turns all that hold neither 01 nor 12: 8 less {01, 12, 012}
        due("3 turned", x.element(3, 2), 5);
        due("3 e", x.element(4, 0), BAD);
        due("3 e", x.element(-1, 0), BAD);
        due("3 what", x.element(0, 3), BAD);
        due("3 what", x.element(0, -1), BAD);
        due("3 none", of(2).element(1, 1), 0);
        MeetingGroups many = of(7, 64, 65, 66, 67, 68, 69, 70, 71, 72, 73, 74, 75);
        due("3 all", many.element(6, 1), 4095);
        due("3 all", many.element(6, 2), 64);
        due("3 superfluous", many.element(0, 2), 0);
    }

    private static void promise4() {
        MeetingGroups x = of(7, 0b0011111, 0b1111100, 0b1110111);
        due("4 n", x.count(0), 7);
        due("4 groups", x.count(1), 3);
        due("4 common", x.count(2), 3);
        due("4 meet", x.count(3), 1);
        // 2 and 4 are in all of them
        due("4 faults", x.count(4), 0);
        due("4 mask", x.count(5), 0);
        due("4 borne", x.count(6), 0);
        x.add(0b1000000);
        due("4 common", x.count(2), 0);
        due("4 meet", x.count(3), 0);
        due("4 faults", x.count(4), 1);
        due("4 mask", x.count(5), NONE);
        due("4 borne", x.count(6), NONE);
        MeetingGroups one = of(7, 127);
        due("4 one and itself", one.count(2), 7);
        due("4 no faults", one.count(4), 0);
        due("4 mask", one.count(5), 0);
        due("4 borne", one.count(6), 0);
        MeetingGroups five = new MeetingGroups();
        told(five, "set 5: 0123, 0124, 0134, 0234, 1234");
        due("4 common", five.count(2), 3);
        due("4 faults", five.count(4), 1);
        due("4 mask", five.count(5), 1);
        due("4 borne", five.count(6), 1);
        MeetingGroups four = new MeetingGroups();
        told(four, "majority 4");
        due("4 common", four.count(2), 2);
        due("4 faults", four.count(4), 1);
        due("4 mask", four.count(5), 0);
        due("4 borne", four.count(6), 1);
        MeetingGroups most = new MeetingGroups();
        told(most, "majority 5");
        due("4 common", most.count(2), 1);
        due("4 meet by one", most.count(3), 1);
        due("4 faults", most.count(4), 2);
        due("4 mask", most.count(5), 0);
        due("4 borne", most.count(6), 0);
        MeetingGroups none = of(4);
        for (int what : new int[] {2, 4, 5, 6}) {
            due("4 none", none.count(what), NONE);
        }
        due("4 none meet", none.count(3), 1);
        due("4 what", none.count(-1), BAD);
        due("4 what", none.count(9), BAD);
    }

    private static void load(String what, MeetingGroups x, int above, int below) {
        due(what + " above", x.load(0), above);
        due(what + " below", x.load(1), below);
    }

    private static void promise5() {
        load("5 apart", of(4, 1, 2, 4, 8), 1, 4);
        load("5 one", of(3, 7), 1, 1);
        load("5 star", of(4, 0b0011, 0b0101, 0b1001), 1, 1);
        load("5 ring", of(5, 3, 6, 12, 24, 17), 2, 5);
        load("5 wheel", of(4, 0b0011, 0b0101, 0b1001, 0b1110), 3, 5);
        load("5 cut", of(7, 0b1111111, 0b0000011, 0b0001100), 1, 2);
        load("5 paths", of(4, 0b0011, 0b0110, 0b1100), 1, 2);
        MeetingGroups x = new MeetingGroups();
        told(x, "plane");
        load("5 plane", x, 3, 7);
        due("5 what", x.load(2), BAD);
        due("5 what", x.load(-1), BAD);
        due("5 none", of(3).load(1), NONE);
        due("5 BAD ahead", of(3).load(2), BAD);
    }

    private static void promise6() {
        MeetingGroups x = of(3, 0b011, 0b110, 0b101);
        sheet(x, 0, 2, 1, 1, 1, 0, 0, 0, 99, 0, 1);
        x.keep(0, 0, 2, 0);
        x.keep(99, 0, 2, 3);
        x.keep(7, 0, 2, 6);
        due("6 above", x.plan(0, 0), 2);
        due("6 below", x.plan(0, 1), 3);
        due("6 least", x.plan(0, 2), 1);
        due("6 first", x.plan(0, 3), 0);
        due("6 zeros", x.plan(99, 0), NONE);
        due("6 zeros", x.plan(99, 1), NONE);
        due("6 zeros", x.plan(99, 2), NONE);
        due("6 zeros stand in a row", x.plan(99, 3), 1);
        due("6 above", x.plan(7, 0), 1);
        due("6 not least", x.plan(7, 2), 0);
        due("6 third", x.plan(7, 3), 2);
        x.out(0b110);
        due("6 out above", x.plan(0, 0), 1);
        due("6 out below", x.plan(0, 1), 1);
        due("6 out least", x.plan(0, 2), 1);
        x.add(0b110);
        due("6 again there", x.plan(0, 0), 2);
        x.add(0b111);
        due("6 one that had none", x.plan(0, 1), 3);
        due("6 none", x.plan(1, 0), NONE);
        due("6 none", x.plan(1, 3), NONE);
        due("6 name", x.plan(-1, 0), BAD);
        due("6 name", x.plan(100, 0), BAD);
        due("6 what", x.plan(1, 4), BAD);
        due("6 what", x.plan(0, -1), BAD);
        told(x, "set 3");
        due("6 no groups", x.plan(0, 0), NONE);
        due("6 no groups", x.plan(0, 3), 0);
        told(x, "set 4: 12, 3");
        due("6 a set is the same in another text", x.plan(0, 1), 1);
    }

    private static void promise7() {
        MeetingGroups x = of(4, 0b0011, 0b1000);
        int[] due = {0, 1, 4, 4, 1};
        for (int k = 0; k <= 4; k++) {
            due("7 standing " + k, x.standing(k), due[k]);
        }
        due("7 above n", x.standing(5), BAD);
        due("7 below", x.standing(-1), BAD);
        due("7 none", of(7).standing(7), 0);
    }

    private static void stands(String what, MeetingGroups x, int c, int above, int below) {
        due(what + " above", x.stands(c, 0), above);
        due(what + " below", x.stands(c, 1), below);
    }

    private static void promise8() {
        MeetingGroups x = of(2, 3);
        stands("8 both", x, 5, 1, 4);
        stands("8 never fail", x, 0, 1, 1);
        stands("8 always fail", x, 10, 0, 1);
        stands("8 by 9", x, 9, 1, 100);
        stands("8 seven", of(7, 127), 7, 2187, 10000000);
        stands("8 any", of(7, 1, 2, 4, 8, 16, 32, 64), 9, 5217031, 10000000);
        stands("8 none", of(7), 0, 0, 1);
        due("8 c", x.stands(-1, 0), BAD);
        due("8 c", x.stands(11, 0), BAD);
        due("8 what", x.stands(1, 2), BAD);
        due("8 what", x.stands(1, -1), BAD);
    }

    private static void promise9() {
        MeetingGroups x = of(4, 0b0011, 0b1100);
        due("9 how many", x.free(0), 4);
        due("9 least", x.free(1), 0b0101);
        due("9 all", of(7).free(0), 128);
        due("9 empty", of(7).free(1), 0);
        MeetingGroups one = of(1, 1);
        due("9 no", one.free(0), 0);
        due("9 no", one.free(1), NONE);
        due("9 what", one.free(2), BAD);
        due("9 what", one.free(-1), BAD);
    }

    private static void promise10() {
        MeetingGroups x = of(4, 0b0111, 0b1000);
        due("10 worst", x.probe(0, 0, 0), 4);
        due("10 next", x.probe(0, 0, 1), 0);
        due("10 3 is well", x.probe(8, 0, 0), 0);
        due("10 3 is well", x.probe(8, 0, 1), NONE);
        due("10 3 failed", x.probe(0, 8, 0), 3);
        due("10 0 failed", x.probe(0, 1, 0), 1);
        due("10 0 failed", x.probe(0, 1, 1), 3);
        due("10 both failed", x.probe(0, 9, 0), 0);
        due("10 both failed", x.probe(0, 9, 1), NONE);
        due("10 in common", x.probe(9, 8, 0), BAD);
        due("10 well", x.probe(16, 0, 0), BAD);
        due("10 failed", x.probe(0, 16, 0), BAD);
        due("10 well", x.probe(-1, 0, 0), BAD);
        due("10 failed", x.probe(0, -8, 0), BAD);
        due("10 what", x.probe(0, 0, 2), BAD);
        due("10 what", x.probe(0, 0, -1), BAD);
        due("10 none", of(3).probe(0, 0, 1), NONE);
        MeetingGroups hub = of(4, 0b0011, 0b0101, 0b1110);
        // 3 says nothing of use unless 1, 2 are well and 0 failed
        due("10 hub", hub.probe(0, 0, 0), 4);
        due("10 hub 1 failed", hub.probe(0, 2, 0), 2);
        due("10 hub 1 failed", hub.probe(0, 2, 1), 0);
        MeetingGroups far = of(7, 0b1100000);
        due("10 far", far.probe(0, 0, 0), 2);
        due("10 far", far.probe(0, 0, 1), 5);
        due("10 far", far.probe(32, 0, 1), 6);
    }

    private static void promise11() {
        MeetingGroups x = of(4);
        for (int set = 1; set <= 12; set++) {
            due("11 add", x.add(set), set);
        }
        due("11 full", x.add(13), FULL);
        due("11 NOT ahead of FULL", x.add(12), NOT);
        due("11 BAD ahead", x.add(16), BAD);
        due("11 BAD ahead", x.add(0), BAD);
        due("11 below", x.add(-1), BAD);
        due("11 least", x.add(Integer.MIN_VALUE), BAD);
        due("11 refused", x.count(1), 12);
        due("11 undone", x.count(8), 6);
        x.undo();
        row("11 undone", x, 1, 2, 3, 4, 5, 6, 7, 8, 9, 10, 11);
    }

    private static void promise12() {
        MeetingGroups x = of(3, 5, 1, 7, 2);
        due("12 out", x.out(1), 3);
        row("12 order", x, 5, 7, 2);
        due("12 none", x.out(1), NONE);
        due("12 beyond", x.out(8), BAD);
        due("12 0", x.out(0), BAD);
        due("12 below", x.out(-1), BAD);
        due("12 undo", x.undo(), 4);
        row("12 undone", x, 5, 1, 7, 2);
    }

    private static void promise13() {
        MeetingGroups x = of(3, 3);
        due("13 what it was", x.size(7), 3);
        due("13 n", x.count(0), 7);
        due("13 so already", x.size(7), NOT);
        due("13 just wide enough", x.size(2), 7);
        due("13 a group has others", x.size(1), NOT);
        due("13 below", x.size(0), BAD);
        due("13 below", x.size(-5), BAD);
        due("13 above", x.size(8), BAD);
        due("13 n", x.count(0), 2);
        x.undo();
        due("13 undone", x.count(0), 7);
        due("13 new elements", x.add(64), 2);
        due("13 held", x.size(6), NOT);
    }

    private static void promise14() {
        MeetingGroups x = new MeetingGroups();
        due("14 below", x.type(31), BAD);
        due("14 above", x.type(127), BAD);
        due("14 below", x.type(-1), BAD);
        due("14 first", x.type(32), 1);
        due("14 last", x.type(126), 2);
        for (int i = 3; i <= 90; i++) {
            due("14 more", x.type(' '), i);
        }
        due("14 full", x.type('a'), FULL);
        due("14 BAD ahead", x.type(127), BAD);
        due("14 read", x.read(), -21);
        due("14 empty again", x.type('a'), 1);
        due("14 not undone", x.count(8), 0);
    }

    private static void fault(String text, int place) {
        MeetingGroups x = of(4, 9);
        due("15 '" + text + "'", told(x, text), -20 - place);
        due("15 stays", x.count(0), 4);
        row("15 stays", x, 9);
        due("15 undone stays", x.count(8), 2);
        due("15 empty", x.type('x'), 1);
    }

    private static void groups(String text, int n, int... groups) {
        MeetingGroups x = of(4, 9);
        due("15 '" + text + "'", told(x, text), groups.length);
        due("15 n of '" + text + "'", x.count(0), n);
        row("15 '" + text + "'", x, groups);
        due("15 undone", x.count(8), 3);
        due("15 empty", x.type('x'), 1);
        x.undo();
        due("15 undone n", x.count(0), 4);
        row("15 undone", x, 9);
    }

    private static void promise15Texts() {
        groups("majority 1", 1, 1);
        groups("majority 2", 2, 3);
        groups(" majority3  ", 3, 3, 5, 6);
        groups("majority 4", 4, 7, 11, 13, 14);
        groups("majority 5", 5, 7, 11, 13, 14, 19, 21, 22, 25, 26, 28);
        groups("grid 1*1", 1, 1);
        groups("grid 2*2", 4, 0b0111, 0b1011, 0b1101, 0b1110);
        groups("grid 3 * 2", 6, 0b001111, 0b010111, 0b100111, 0b111001, 0b111010, 0b111100);
        groups("grid 1*4", 4, 15);
        groups("wall 4", 4, 15);
        groups("wall 2,1", 3, 0b111, 0b100);
        groups("wall 1,1,2", 4, 0b0111, 0b1011, 0b0110, 0b1010, 0b1100);
        groups("wall 1 , 4,2", 7, 0b0100011, 0b1000011, 0b0100101, 0b1000101, 0b0101001, 0b1001001, 0b0110001,
            0b1010001, 0b0111110, 0b1011110, 0b1100000);
        groups("plane", 7, 0b0001011, 0b0010110, 0b0101100, 0b1011000, 0b0110001, 0b1100010, 0b1000101);
        groups("set 2", 2);
        groups("set 7", 7);
        groups("set7:6", 7, 64);
        groups("set 3 : 20 , 1", 3, 5, 2);
        groups("set 7:0,1,2,3,4,5,6,10,20,30,40,50", 7, 1, 2, 4, 8, 16, 32, 64, 3, 5, 9, 17, 33);
    }

    private static void promise15Names() {
        fault("", 0);
        fault("   ", 3);
        fault("3", 0);
        fault(" Plane", 1);
        fault(" planes", 1);
        fault("pla ne", 0);
        fault("maj 3", 0);
        fault("sets 3", 0);
        fault("walls 1", 0);
        fault("grids", 0);
        fault("plane,", 5);
        fault("plane plane", 6);
        fault("plane7", 5);
    }

    private static void promise15Figures() {
        fault("majority", 8);
        fault("majority  ", 10);
        fault("majority 0", 9);
        fault("majority 6", 9);
        fault("majority 3 3", 11);
        fault("majority x", 9);
        fault("grid", 4);
        fault("grid 0*1", 5);
        fault("grid 5*1", 5);
        fault("grid 2", 6);
        fault("grid 2,3", 6);
        fault("grid 22*1", 6);
        fault("grid 2* 5", 8);
        fault("grid 2*4", 7);
        fault("grid 3*3x", 7);
        fault("grid 2*3*1", 8);
        fault("grid 2*3,", 8);
    }

    private static void promise15Walls() {
        fault("wall", 4);
        fault("wall 0", 5);
        fault("wall ,1", 5);
        fault("wall 5", 5);
        fault("wall 12", 6);
        fault("wall 1,", 7);
        fault("wall 1,,2", 7);
        fault("wall 4, 4", 8);
        fault("wall 4,3,1", 9);
        fault("wall 4,3,", 9);
        fault("wall 1,1,1,1", 10);
        fault("wall 1,1,1,", 10);
        fault(" wall 1,3,3", 1);
        fault("wall 1,2,4 ", 0);
        fault("wall 1,2,4 .", 11);
        fault("wall 1,2,4,", 10);
        fault("wall 2,3,3", 9);
    }

    private static void promise15Sets() {
        fault("set", 3);
        fault("set 0", 4);
        fault("set 8", 4);
        fault("set 33", 5);
        fault("set 3,", 5);
        fault("set 3:", 6);
        fault("set 3: ", 7);
        fault("set 3:,", 6);
        fault("set 3:0,", 8);
        fault("set 3:3", 6);
        fault("set 3:013", 8);
        fault("set 3:01 2", 9);
        fault("set 3:010", 8);
        fault("set 3:01,10", 11);
        fault("set 3:01,10 ", 12);
        fault("set 3:01,10 ,2", 12);
        fault("set 3:01, 10 x", 13);
        fault("set 3:0,00", 9);
        fault("set 3:0;1", 7);
        fault("set 3:9", 6);
        fault("set 7:0,1,2,3,4,5,6,10,20,30,40,50,60", 35);
        fault("set 7:0,1,2,3,4,5,6,10,20,30,40,50, 0", 36);
        fault("set 7:0,1,2,3,4,5,6,10,20,30,40,50,", 35);
        fault("set 7:0,1,2,3,4,5,6,10,20,30,40,50.", 34);
    }

    private static void promise15Plans() {
        MeetingGroups x = of(3, 3);
        sheet(x, 0, 0, 4);
        x.keep(1, 0, 0, 0);
        told(x, "majority 3");
        due("15 plans stay", x.count(7), 1);
        due("15 plans stay", x.plan(1, 0), 1);
        told(x, "majority 3");
        due("15 the same is undone, too", x.count(8), 4);
    }

    private static void promise16() {
        MeetingGroups x = new MeetingGroups();
        // 1 becomes 1103527590: x 16838, by 7 3 left over
        due("16 a turn", x.drift(1), 1);
        row("16 a turn", x, 4);
        due("16 draw", x.seed(1), 1103527590);
        due("16 out", x.drift(1), 0);
        due("16 undone", x.count(8), 2);
        due("16 bad", x.drift(0), BAD);
        due("16 bad", x.drift(41), BAD);
        due("16 bad", x.drift(-1), BAD);
        due("16 refused", x.seed(1), 1103527590);
        due("16 most", x.drift(40) >= 0 ? 1 : 0, 1);
        due("16 six are known", x.count(8), 6);
        MeetingGroups one = of(1);
        due("16 one element", one.drift(1), 1);
        due("16 one element", one.drift(1), 0);
        due("16 one element", one.drift(39), 1);
        MeetingGroups full = of(4, 1, 2, 3, 5, 6, 7, 8, 9, 10, 11, 12, 13);
        // 16838 by 15: 8 left over, so 9 is out
        due("16 full, out", full.drift(1), 11);
        full.add(9);
        full.seed(seedFor(4, 4));
        due("16 full, nothing comes", full.drift(1), 12);
        due("16 nothing came", full.group(11, 0), 9);
        full.undo();
        due("16 nothing undone", full.seed(0), seedFor(4, 4));
    }

    /** A seed by which the next turn draws the set. */
    private static int seedFor(int n, int set) {
        for (int seed = 0;; seed++) {
            long draw = (seed * 1103515245L + 12345) & 0x7fffffffL;
            if (draw / 65536 % ((1 << n) - 1) + 1 == set) {
                return seed;
            }
        }
    }

    private static void promise17() {
        MeetingGroups x = new MeetingGroups();
        due("17 none", x.undo(), NONE);
        x.size(4);
        x.add(3);
        x.add(12);
        x.out(3);
        sheet(x, 0, 1, 9);
        x.keep(4, 0, 1, 0);
        told(x, "plane");
        x.drift(1);
        due("17 six", x.count(8), 6);
        x.seed(77);
        due("17 drift", x.undo(), 5);
        due("17 draw as ahead", x.seed(88), 1);
        due("17 groups", x.count(1), 7);
        due("17 text", x.undo(), 4);
        due("17 draw as ahead", x.seed(99), 1);
        due("17 n", x.count(0), 4);
        row("17 text", x, 12);
        due("17 plan", x.count(7), 1);
        due("17 plan kept", x.undo(), 3);
        due("17 plan", x.plan(4, 3), NONE);
        due("17 out", x.undo(), 2);
        row("17 out", x, 3, 12);
        due("17 told", x.undo(), 1);
        row("17 told", x, 3);
        due("17 told", x.undo(), 0);
        row("17 told", x);
        due("17 n told is lost", x.undo(), NONE);
        due("17 n told is lost", x.count(0), 4);
        x.add(1);
        due("17 after all", x.undo(), 0);
        MeetingGroups y = of(4, 1);
        y.add(1);
        y.out(2);
        y.size(9);
        y.drift(0);
        y.read();
        y.seed(3);
        y.image();
        y.keep(1, 0, 0, 0);
        due("17 what is refused isn't known", y.count(8), 2);
    }

    private static void promise18() {
        MeetingGroups x = new MeetingGroups();
        due("18 at first", x.seed(0), 1);
        due("18 then", x.seed(Integer.MAX_VALUE), 0);
        due("18 bad", x.seed(-1), BAD);
        due("18 bad", x.seed(Integer.MIN_VALUE), BAD);
        due("18 then", x.seed(7), Integer.MAX_VALUE);
        due("18 not undone", x.count(8), 0);
        x.seed(0);
        x.drift(1);
        due("18 12345", x.seed(Integer.MAX_VALUE), 12345);
        x.drift(1);
        // less 1103515245 and 12345 more, lowest 31 bits
        due("18 31 bits", x.seed(0), (int) (((1L << 31) - 1103515245L + 12345L) & 0x7fffffffL));
    }

    private static void promise19And20() {
        MeetingGroups x = of(4, 3, 6);
        sheet(x, 0, 3, 2, 5);
        x.keep(8, 0, 3, 0);
        x.seed(123);
        x.type('p');
        due("20 none", x.restore(), NONE);
        due("19 image", x.image(), 1);
        due("19 undone stays", x.count(8), 4);
        x.undo();
        x.undo();
        told2(x, "lane");
        x.drift(9);
        x.drop(0);
        for (int turn = 0; turn < 2; turn++) {
            due("20 restore", x.restore(), 1);
            due("20 n", x.count(0), 4);
            row("20 groups", x, 3, 6);
            due("20 plan", x.plan(8, 0), 1);
            due("20 draw", x.seed(5), 123);
            due("20 undone", x.undo(), 3);
            due("20 undone", x.count(7), 0);
            due("20 undone", x.undo(), 2);
            row("20 undone", x, 3);
            due("20 sheets stay", x.drop(0), NULL);
        }
        x.type('p');
        x.restore();
        told2(x, "lane");
        due("20 the tape stays", x.count(1), 7);
        x.image();
        x.restore();
        due("19 the newest image", x.count(1), 7);
    }

    private static void told2(MeetingGroups x, String rest) {
        for (int i = 0; i < rest.length(); i++) {
            x.type(rest.charAt(i));
        }
        due("read of p" + rest, x.read(), 7);
    }

    private static void promise21() {
        MeetingGroups x = of(3, 3, 5);
        sheet(x, 0, 0, 99, 0, 100, -1, 1);
        due("21 keep", x.keep(0, 0, 0, 0), 1);
        due("21 keep", x.keep(99, 0, 0, 0), 2);
        due("21 weight 100", x.keep(1, 0, 0, 1), NOT);
        due("21 weight -1", x.keep(1, 0, 0, 3), NOT);
        due("21 name", x.keep(-1, 0, 0, 0), BAD);
        due("21 name", x.keep(100, 0, 0, 0), BAD);
        due("21 sheet", x.keep(1, 4, 0, 0), BAD);
        due("21 sheet", x.keep(1, -1, 0, 0), BAD);
        due("21 lane", x.keep(1, 0, 4, 0), BAD);
        due("21 lane", x.keep(1, 1, -1, 0), BAD);
        due("21 null", x.keep(1, 1, 0, -9), NULL);
        due("21 cast", x.keep(1, 0, 3, -9), CAST);
        due("21 index", x.keep(1, 0, 0, -1), INDEX);
        due("21 index", x.keep(1, 0, 0, 4), INDEX);
        due("21 index", x.keep(1, 0, 0, Integer.MAX_VALUE), INDEX);
        due("21 refused", x.count(7), 2);
        sheet(x, 1, 3, 1L << 32, 1);
        due("21 wide items", x.keep(1, 1, 3, 0), NOT);
        MeetingGroups none = of(3);
        sheet(none, 0, 0, 1, 2);
        due("21 no groups", none.keep(0, 0, 0, 2), NOT);
        due("21 no item taken", none.keep(0, 0, 0, 3), INDEX);
        due("21 no item taken", none.keep(0, 0, 0, -1), INDEX);
        due("21 no groups", none.count(8), 0);
    }

    private static void promise21Places() {
        MeetingGroups x = of(3, 3, 5);
        sheet(x, 0, 1, 1, 2, 3);
        for (int name = 10; name < 14; name++) {
            due("21 keep", x.keep(name, 0, 1, 0), name - 9);
        }
        due("21 by a name that is there", x.keep(11, 0, 1, 1), 4);
        int[] places = {0, 3, 1, 2};
        for (int name = 10; name < 14; name++) {
            due("21 place of " + name, x.plan(name, 3), places[name - 10]);
        }
        due("21 one more", x.keep(14, 0, 1, 0), 4);
        due("21 lost", x.plan(10, 3), NONE);
        due("21 oldest", x.plan(12, 3), 0);
        x.undo();
        due("21 undone", x.plan(10, 3), 0);
        due("21 undone", x.plan(14, 3), NONE);
        x.undo();
        due("21 undone", x.plan(11, 3), 1);
        MeetingGroups parts = of(3, 3, 4);
        sheet(parts, 0, 0, 1, 2, 3);
        parts.keep(1, 0, 0, 0);
        due("21 weights", parts.plan(1, 0), 2);
        parts.keep(1, 0, 0, 1);
        due("21 new weights", parts.plan(1, 0), 3);
        due("21 new weights", parts.plan(1, 1), 5);
    }

    private static void promise22() {
        MeetingGroups x = of(4, 0b0011, 0b0101, 0b1001);
        sheet(x, 0, 0, 0b1001, 0b0011, 0b0101, 0b0101, 0b1111, 0b0110, 0b1001, 16, 0, -1, 1);
        due("22 just the groups", x.what(0, 0, 0, 3), 1 + 2 + 4 + 16);
        due("22 less of them", x.what(0, 0, 0, 2), 1 + 2 + 4);
        due("22 one twice", x.what(0, 0, 1, 3), 1 + 4);
        due("22 one twice", x.what(0, 0, 0, 4), 1 + 4);
        due("22 one", x.what(0, 0, 4, 1), 1 + 2 + 4 + 8);
        due("22 one", x.what(0, 0, 0, 1), 1 + 2 + 4);
        due("22 apart", x.what(0, 0, 5, 2), 2 + 4 + 8);
        due("22 a part", x.what(0, 0, 4, 2), 1);
        due("22 beyond", x.what(0, 0, 6, 2), NOT);
        due("22 empty", x.what(0, 0, 8, 1), NOT);
        due("22 below", x.what(0, 0, 9, 1), NOT);
        due("22 n", x.what(0, 0, 0, 0), BAD);
        due("22 n", x.what(0, 0, 0, 13), BAD);
        due("22 n", x.what(1, 0, 0, -1), BAD);
        due("22 sheet", x.what(4, 0, 0, 1), BAD);
        due("22 lane", x.what(1, 4, 0, 1), BAD);
        due("22 null", x.what(1, 0, 0, 1), NULL);
        due("22 cast", x.what(0, 1, -1, 1), CAST);
        due("22 index", x.what(0, 0, -1, 1), INDEX);
        due("22 index", x.what(0, 0, 0, 12), INDEX);
        due("22 index", x.what(0, 0, 11, 1), INDEX);
        due("22 index", x.what(0, 0, Integer.MAX_VALUE, 12), INDEX);
        sheet(x, 2, 3, 1L << 32 | 1, 1);
        due("22 wide items", x.what(2, 3, 0, 2), NOT);
        sheet(x, 3, 1, 1, 2, 3, 4, 5, 6, 7, 8, 9, 10, 11, 12);
        due("22 most", x.what(3, 1, 0, 12), 0);
        MeetingGroups none = of(2);
        sheet(none, 0, 0, 1, 2);
        due("22 no groups", none.what(0, 0, 0, 2), 2 + 4 + 8);
    }

    private static void promise23() {
        MeetingGroups x = of(7, 127, 64, 3);
        x.sheet(0, 0, 5);
        due("23 film", x.film(0, 0, 2), 3);
        due("23 came", x.what(0, 0, 2, 3), 16);
        due("23 others stay", x.what(0, 0, 1, 1), NOT);
        due("23 index", x.film(0, 0, 3), INDEX);
        due("23 index", x.film(0, 0, -1), INDEX);
        due("23 null", x.film(1, 0, -1), NULL);
        due("23 cast", x.film(0, 2, -1), CAST);
        due("23 sheet", x.film(4, 0, 0), BAD);
        due("23 sheet", x.film(-1, 0, 0), BAD);
        due("23 lane", x.film(1, 4, 0), BAD);
        due("23 lane", x.film(1, -1, 0), BAD);
        MeetingGroups none = of(3);
        none.sheet(0, 3, 2);
        due("23 none", none.film(0, 3, 2), 0);
        due("23 none", none.film(0, 3, 3), INDEX);
        due("23 none", none.film(0, 3, -1), INDEX);
        due("23 not undone", x.count(8), 4);
    }

    private static void promise24And25() {
        MeetingGroups x = of(1, 1);
        due("24 sheet", x.sheet(3, 3, 24), 24);
        due("24 above", x.sheet(3, 3, 25), BAD);
        due("24 below", x.sheet(3, 3, -1), SIZE);
        due("24 below", x.sheet(3, 3, Integer.MIN_VALUE), SIZE);
        due("24 BAD ahead", x.sheet(4, 3, -1), BAD);
        due("24 BAD ahead", x.sheet(3, 4, -1), BAD);
        due("24 sheet", x.sheet(-1, 0, 1), BAD);
        due("24 lane", x.sheet(0, -1, 1), BAD);
        due("24 refused", x.item(3, 3, 23, 1), 1);
        due("24 a new row", x.sheet(3, 3, 24), 24);
        due("24 a new row holds zeros", x.what(3, 3, 23, 1), NOT);
        due("24 another lane", x.sheet(3, 0, 2), 2);
        due("25 drop", x.drop(3), 2);
        due("25 null", x.drop(3), NULL);
        due("25 bad", x.drop(4), BAD);
        due("25 bad", x.drop(-1), BAD);
        due("24 empty", x.sheet(0, 2, 0), 0);
        due("26 empty", x.item(0, 2, 0, 1), INDEX);
        due("25 empty", x.drop(0), 0);
    }

    private static void lane(int lane, long in, boolean isOne) {
        MeetingGroups x = of(1, 1);
        sheet(x, 0, lane, in);
        due("26 lane " + lane + " of " + in, x.what(0, lane, 0, 1), isOne ? 31 : NOT);
    }

    private static void promise26() {
        lane(0, 257, true);
        lane(0, 1L << 40 | 1, true);
        lane(0, -255, true);
        lane(1, 257, false);
        lane(1, 65537, true);
        lane(2, 65537, false);
        lane(2, 1L << 32 | 1, true);
        lane(3, 1L << 32 | 1, false);
        lane(3, 1, true);
        MeetingGroups x = of(7, 127);
        sheet(x, 0, 0, 127, 128, 255);
        due("26 127", x.what(0, 0, 0, 1), 31);
        due("26 128 has a sign", x.what(0, 0, 1, 1), NOT);
        due("26 index", x.item(0, 0, 3, 0), INDEX);
        due("26 index", x.item(0, 0, -1, 0), INDEX);
        due("26 cast", x.item(0, 1, 3, 0), CAST);
        due("26 null", x.item(1, 1, 3, 0), NULL);
        due("26 sheet", x.item(4, 1, 3, 0), BAD);
        due("26 sheet", x.item(-1, 1, 3, 0), BAD);
        due("26 lane", x.item(1, 4, 3, 0), BAD);
        due("26 lane", x.item(1, -1, 3, 0), BAD);
    }

    private static void items(String what, MeetingGroups x, int sheet, int lane, int... sets) {
        for (int i = 0; i < sets.length; i++) {
            int set = sets[i];
            told(x, "set 3:" + ((set & 1) > 0 ? "0" : "") + ((set & 2) > 0 ? "1" : "") + ((set & 4) > 0 ? "2" : ""));
            due(what + ": item " + i, x.what(sheet, lane, i, 1) & 16, 16);
        }
    }

    private static void promise27() {
        MeetingGroups x = new MeetingGroups();
        sheet(x, 0, 1, 1, 2, 3, 4, 5);
        due("27 up", x.copy(0, 0, 0, 1, 4), 4);
        items("27 up", x, 0, 1, 1, 1, 2, 3, 4);
        due("27 down", x.copy(0, 2, 0, 0, 3), 3);
        items("27 down", x, 0, 1, 2, 3, 4, 3, 4);
        x.sheet(1, 1, 2);
        due("27 to another", x.copy(0, 1, 1, 0, 2), 2);
        items("27 to another", x, 1, 1, 3, 4);
        due("27 none", x.copy(0, 5, 1, 2, 0), 0);
        due("27 none", x.copy(0, 6, 1, 2, 0), INDEX);
        due("27 none", x.copy(0, 5, 1, 3, 0), INDEX);
        due("27 none", x.copy(0, -1, 1, 2, 0), INDEX);
        due("27 none", x.copy(0, 0, 1, -1, 0), INDEX);
        due("27 from", x.copy(1, 1, 0, 0, 2), INDEX);
        due("27 to", x.copy(0, 0, 1, 1, 2), INDEX);
        due("27 n", x.copy(0, 1, 1, 1, -1), INDEX);
        due("27 n", x.copy(0, 1, 1, 1, Integer.MAX_VALUE), INDEX);
        due("27 n", x.copy(0, 1, 1, 1, Integer.MIN_VALUE), INDEX);
        due("27 null", x.copy(0, 0, 2, 0, -1), NULL);
        due("27 null", x.copy(2, 0, 0, 0, -1), NULL);
        due("27 null", x.copy(2, 0, 2, 0, 0), NULL);
        x.sheet(2, 2, 2);
        due("27 cast", x.copy(0, 0, 2, 0, -1), CAST);
        due("27 from", x.copy(4, 0, 3, 0, -1), BAD);
        due("27 to", x.copy(3, 0, 4, 0, -1), BAD);
        due("27 below", x.copy(-1, 0, 0, 0, 1), BAD);
        due("27 below", x.copy(0, 0, -1, 0, 1), BAD);
        items("27 refused", x, 1, 1, 3, 4);
    }

    public static void main(String[] args) {
        promise1();
        promise2();
        promise3();
        promise4();
        promise5();
        promise6();
        promise7();
        promise8();
        promise9();
        promise10();
        promise11();
        promise12();
        promise13();
        promise14();
        promise15Texts();
        promise15Names();
        promise15Figures();
        promise15Walls();
        promise15Sets();
        promise15Plans();
        promise16();
        promise17();
        promise18();
        promise19And20();
        promise21();
        promise21Places();
        promise22();
        promise23();
        promise24And25();
        promise26();
        promise27();
        System.out.println(asked + " answers, " + wrong + " not as due");
        if (wrong != 0) {
            System.exit(1);
        }
    }
}
