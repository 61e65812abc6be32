/** Promises 21 to 30. */
final class HousesTest {
    private static final int MIN = Integer.MIN_VALUE, MAX = Integer.MAX_VALUE;
    private static final Due due = new Due();

    public static void main(String[] args) {
        meet();
        errandAndRest();
        parted();
        tour();
        wells();
        wellsByKindsAndSlopes();
        hold();
        stops();
        image();
        restoreOfAll();
        due.end();
    }

    private static void meet() {
        StepRings x = Due.made("ab10,bc10,cd10", "ag0,dg0,cc0,lg0,bg0");
        due.is("21 of like ones the first", x.meet(0, 1, 0), 0);
        due.is("21 together", x.meet(0, 1, 1), 30);
        due.is("21 where the child is", x.meet(0, 2, 0), 2);
        due.is("21 where the child is, costs", x.meet(0, 2, 1), 20);
        due.is("21 the same, told the other way", x.meet(2, 0, 0), 2);
        due.is("21 none", x.meet(0, 3, 0), -4);
        due.is("21 none, costs", x.meet(0, 3, 1), -4);
        x.way(0, 11, 1, 9);
        due.is("21 down is cheaper", x.meet(0, 3, 0), 0);
        due.is("21 down is cheaper, costs", x.meet(0, 3, 1), 1);
        StepRings y = Due.made("ab10", "ag99,ag99");
        y.go(0, 1);
        due.is("21 from where they are", y.meet(0, 1, 1), 10);
        y.go(1, 1);
        due.is("21 where both are", y.meet(0, 1, 0), 1);
        due.is("21 where both are, nothing", y.meet(0, 1, 1), 0);
        int[][] bad = {
            {-1, 0, 0}, {5, 0, 0}, {0, -1, 0}, {0, 5, 0}, {0, 0, 0}, {0, 1, -1}, {0, 1, 2}, {MIN, 0, 0}, {0, MAX, 0}, {0, 1, MIN}, {0, 3, 2}};
        for (int[] b : bad) {
            due.is("21 bad", x.meet(b[0], b[1], b[2]), -1);
        }
    }

    private static void errandAndRest() {
        StepRings x = new StepRings();
        due.is("23 none", x.rest(), 0);
        for (int i = 0; i < 6; i++) {
            due.is("22 number", x.errand(i == 5 ? 11 : 0), i);
        }
        due.is("22 full", x.errand(0), -3);
        for (int bad : new int[] {-1, 12, MIN, MAX}) {
            due.is("22 bad before full", x.errand(bad), -1);
        }
        due.is("22 six", x.count(2), 6);
        due.is("23 all go", x.rest(), 6);
        due.is("23 none is left", x.count(2), 0);
        due.is("23 none goes", x.rest(), 0);
        due.is("22 anew", x.errand(3), 0);
        due.is("22 bad", x.errand(12), -1);
    }

    private static void parted() {
        StepRings x = Due.made("ab10,bc10,ad1,de2,ef3", "ag0,cg0,fc0,lg0");
        due.is("24 nothing to do", x.parted(1), 0);
        x.errand(1);
        due.is("24 one alone", x.parted(1), 20);
        due.is("24 of two, one stays", x.parted(3), 20);
        x.errand(3);
        due.is("24 one does both", x.parted(1), 22);
        due.is("24 the other does both", x.parted(2), 42);
        x.errand(2);
        due.is("24 parted", x.parted(3), 22);
        due.is("24 one alone, all", x.parted(1), 42);
        due.is("24 who can't does not", x.parted(9), 42);
        due.is("24 who can't, alone", x.parted(8), -4);
        x.errand(5);
        due.is("24 three", x.parted(7), 22);
        x.errand(11);
        due.is("24 one is for one alone", x.parted(15), 22);
        due.is("24 it can't be", x.parted(7), -4);
        x.rest();
        x.way(3, 2, 1, 0);
        x.given(0, 9999);
        x.month();
        x.go(0, 5);
        due.is("24 who has none stays where he is", x.parted(1), 0);
        x.errand(5);
        due.is("24 and home", x.parted(1), 6);
        for (int bad : new int[] {0, -1, 16, 17, 31, 256, MIN, MAX}) {
            due.is("24 bad", x.parted(bad), -1);
        }
        due.is("24 bad without people", new StepRings().parted(1), -1);
        StepRings y = Due.made("a+9b1", "ag0,bg0");
        y.errand(0);
        y.errand(1);
        due.is("24 each at home", y.parted(3), 0);
        due.is("24 up and down", y.parted(1), 29);
    }

    private static void tour() {
        StepRings x = Due.made("ab5,bc5,cd5,da5,ae1", "ag100,lg0");
        due.is("25 nothing to do", x.tour(0, -1), 0);
        due.is("25 no first", x.tour(0, 0), -4);
        x.errand(2);
        x.errand(1);
        x.errand(3);
        due.is("25 round", x.tour(0, -1), 20);
        int[] order = {1, 0, 2, -4, -4, -4};
        for (int i = 0; i < 6; i++) {
            due.is("25 round, " + i, x.tour(0, i), order[i]);
        }
        x.errand(4);
        x.errand(0);
        x.errand(1);
        due.is("25 six", x.tour(0, -1), 22);
        // a, b, c, d are round; e is first or last or where home is passed: the first row begins at b
        int[] six = {1, 5, 0, 2, 3, 4};
        for (int i = 0; i < 6; i++) {
            due.is("25 six, " + i, x.tour(0, i), six[i]);
        }
        due.is("25 no way", x.tour(1, -1), -4);
        due.is("25 no way, first", x.tour(1, 0), -4);
        due.is("25 bad before none", x.tour(1, 6), -1);
        x.go(0, 2);
        due.is("25 from where one is", x.tour(0, -1), 22);
        due.is("25 from where one is, first", x.tour(0, 0), 0);
        x.rest();
        due.is("25 home alone", x.tour(0, -1), 10);
        Due.town(x, "ab1");
        due.is("25 no way home", x.tour(0, -1), -4);
        int[][] bad = {{-1, 0}, {2, 0}, {0, -2}, {0, 6}, {MIN, 0}, {MAX, 0}, {0, MIN}, {0, MAX}};
        for (int[] b : bad) {
            due.is("25 bad", x.tour(b[0], b[1]), -1);
        }
    }

    private static void wells(String what, StepRings x, int worst, int cost, int... row) {
        int k = row.length;
        due.is("26 " + what, x.wells(k, worst, -1), cost);
        for (int i = 0; i < k; i++) {
            due.is("26 " + what + ", " + i, x.wells(k, worst, i), cost < 0 ? cost : row[i]);
        }
    }

    private static void wells() {
        StepRings x = Due.made("ab10,bc10,cd10,de10", "ag0,bg0,cg0,dg0,eg0");
        wells("one", x, 99999, 60, 2);
        wells("one, and worst at its edge", x, 20, 60, 2);
        wells("one, and worst below", x, 19, -4, 0);
        wells("two", x, 99999, 30, 0, 3);
        wells("two, nobody worse than 10", x, 10, 30, 0, 3);
        wells("two, and worst below", x, 9, -4, 0, 0);
        wells("three", x, 99999, 20, 0, 1, 3);
        wells("three, worst 0", x, 0, -4, 0, 0, 0);
        x.given(0, 9999);
        x.month();
        x.go(0, 4);
        wells("from home, not from now", x, 99999, 60, 2);
        x.person(11, 0, 0);
        wells("one can't", x, 99999, -4, 0);
        wells("two, one of them apart", x, 99999, 60, 2, 11);
        due.is("26 bad k", x.wells(0, 5, -1), -1);
        due.is("26 bad k", x.wells(4, 5, -1), -1);
        due.is("26 bad k", x.wells(MIN, 5, -1), -1);
        due.is("26 bad worst", x.wells(1, -1, -1), -1);
        due.is("26 bad worst", x.wells(1, 100000, -1), -1);
        due.is("26 bad i", x.wells(1, 5, -2), -1);
        due.is("26 bad i", x.wells(1, 5, 1), -1);
        due.is("26 bad i", x.wells(2, 5, 2), -1);
        due.is("26 bad i", x.wells(3, 5, 3), -1);
        due.is("26 bad i", x.wells(3, 5, MAX), -1);
        StepRings nobody = Due.made("ab5", "");
        wells("nobody", nobody, 99999, -4, 0, 0);
        due.is("26 bad before none", nobody.wells(2, 5, 2), -1);
        StepRings one = Due.made("", "lg0");
        wells("where one lives", one, 0, 0, 11);
        wells("where one lives, and the first else", one, 0, 0, 0, 1, 11);
    }

    private static void wellsByKindsAndSlopes() {
        // the least together leaves one worse off than told
        StepRings x = Due.made("ab10,bc30", "ag0,ag0,ag0,cg0");
        wells("least together", x, 99999, 40, 0);
        wells("nobody above 30", x, 30, 60, 1);
        StepRings y = Due.made("a+9b10", "ag0,bg0");
        wells("downhill to it", y, 99999, 10, 0);
        StepRings z = Due.made("ab10", "ag0,bc0");
        wells("where the child is", z, 99999, 10, 1);
    }

    private static void hold() {
        StepRings x = Due.made("a+1b10,bc10,cd10,kl1", "ag0,ac0");
        due.is("27 nothing", x.hold(0, 0, 0), 1);
        due.is("27 one short", x.hold(0, 0, 12), 1);
        due.is("27 just so", x.hold(0, 0, 13), 3);
        due.is("27 more", x.hold(0, 0, 32), 7);
        due.is("27 all that can be", x.hold(0, 0, 99999), 15);
        due.is("27 a child", x.hold(1, 0, 32), 3);
        due.is("27 from another place", x.hold(0, 3, 20), 14);
        due.is("27 down", x.hold(0, 1, 10), 7);
        due.is("27 apart", x.hold(0, 11, 99999), 3 << 10);
        due.is("27 without ways", x.hold(0, 7, 5), 1 << 7);
        int[][] bad = {{-1, 0, 5}, {2, 0, 5}, {0, -1, 5}, {0, 12, 5}, {0, 0, -1}, {0, 0, 100000}, {MIN, 0, 5}, {0, MAX, 5}, {0, 0, MIN}, {0, 0, MAX}};
        for (int[] b : bad) {
            due.is("27 bad", x.hold(b[0], b[1], b[2]), -1);
        }
    }

    private static void stops() {
        StepRings x = Due.made("ab1,ab2,ba3,bc1,cd1,bd1", "");
        due.is("28 three between two", x.stops(0, 1), 3);
        due.is("28 the other way", x.stops(1, 0), 3);
        due.is("28 the narrow end", x.stops(0, 3), 2);
        due.is("28 back", x.stops(3, 0), 2);
        due.is("28 apart", x.stops(0, 11), 0);
        // the first row found over b and c must be given back
        StepRings y = Due.made("bc1,ab1,cd1,ac1,bd1", "");
        due.is("28 crossing", y.stops(0, 3), 2);
        due.is("28 crossing back", y.stops(3, 0), 2);
        StepRings full = new StepRings();
        for (int i = 0; i < 24; i++) {
            full.way(i & 1, 1 - (i & 1), 1, 0);
        }
        due.is("28 all", full.stops(0, 1), 24);
        int[][] bad = {{-1, 0}, {12, 0}, {0, -1}, {0, 12}, {0, 0}, {11, 11}, {MIN, 0}, {0, MAX}};
        for (int[] b : bad) {
            due.is("28 bad", x.stops(b[0], b[1]), -1);
        }
    }

    private static void image() {
        StepRings x = Due.made("ab5", "ag50");
        due.is("30 none", x.restore(), -4);
        due.is("29 one", x.image(), 1);
        x.go(0, 1);
        due.is("29 in place of it", x.image(), 1);
        x.go(0, 0);
        due.is("30 the later one", x.restore(), 1);
        due.is("30 place", x.of(0, 3), 1);
        x.go(0, 0);
        due.is("30 again", x.restore(), 1);
        due.is("30 again, ring", x.of(0, 2), 45);
        StepRings y = new StepRings();
        due.is("29 of nothing", y.image(), 1);
        Due.town(y, "ab5");
        Due.people(y, "ag50");
        y.restore();
        due.is("30 nothing, ways", y.count(0), 0);
        due.is("30 nothing, people", y.count(1), 0);
    }

    private static void restoreOfAll() {
        StepRings x = Due.made("ab5g,bc5", "ag50,ac60");
        x.errand(1);
        x.errand(2);
        x.given(2, 77);
        x.rule(1);
        x.lend(0, 1, 10);
        x.go(0, 2);
        x.sheet(1, 1, 3);
        x.item(1, 1, 0, 9);
        Due.type(x, "ab");
        x.image();
        Due.type(x, "7,cd8");
        x.drop(1);
        x.sheet(2, 0, 5);
        x.way(0, 3, 1, 0);
        due.is("30 far before", x.far(0, 0, 3), 1);
        x.go(1, 3);
        x.gate(0, false);
        x.gate(1, true);
        x.person(5, 3, 1);
        x.rest();
        x.errand(7);
        x.given(2, 78);
        x.rule(2);
        x.pay(1, 0, 4);
        x.lend(1, 0, 4);
        x.month();
        due.is("30 restored", x.restore(), 1);
        int[] counts = {2, 2, 2, 50 + 60 - 10, 10, 10};
        for (int what = 0; what < 6; what++) {
            due.is("30 count(" + what + ")", x.count(what), counts[what]);
        }
        due.is("30 gates", x.told(0, 4) * 2 + x.told(1, 4), 2);
        due.is("30 far", x.far(0, 0, 3), -4);
        due.is("30 place", x.of(0, 3), 2);
        due.is("30 gates count", x.of(0, 4), 5);
        due.is("30 owed", x.owes(1, 0), 10);
        due.is("30 not owed", x.owes(0, 1), 0);
        due.is("30 errand", x.tour(0, -1), 10);
        due.is("30 given", x.given(2, 0), 77);
        due.is("30 law", x.rule(0), 1);
        due.is("30 sheets stay as they are", x.drop(1), -11);
        due.is("30 sheets stay as they are", x.drop(2), 5);
        x.sheet(0, 1, 2);
        x.item(0, 1, 0, 50);
        x.item(0, 1, 1, 60);
        due.is("30 in and out", x.lies(0, 1, 0), 0);
        x.item(0, 1, 0, 44);
        x.item(0, 1, 1, 59);
        due.is("30 in and out, less", x.lies(0, 1, 0), 3);
        due.is("30 the tape stays as it is", x.town(), 2);
        due.is("30 the tape as it is", x.told(0, 2), 7);
    }
}
