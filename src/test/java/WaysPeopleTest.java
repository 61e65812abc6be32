/** Promises 1 to 14. */
final class WaysPeopleTest {
    private static final int MIN = Integer.MIN_VALUE, MAX = Integer.MAX_VALUE;
    private static final Due due = new Due();

    public static void main(String[] args) {
        aNewObject();
        way();
        gate();
        told();
        person();
        of();
        costs();
        far();
        given();
        rule();
        type();
        town();
        townFaults();
        people();
        peopleFaults();
        count();
        due.end();
    }

    private static void aNewObject() {
        StepRings x = new StepRings();
        for (int what = 0; what <= 5; what++) {
            due.is("1 count(" + what + ")", x.count(what), 0);
        }
        due.is("1 told", x.told(0, 0), -100001);
        due.is("1 of", x.of(0, 0), -1);
        due.is("1 no image", x.restore(), -4);
        due.is("1 the tape is empty", x.town(), -20);
        due.is("1 month", x.month(), 0);
        for (int sheet = 0; sheet < 4; sheet++) {
            due.is("1 sheets hold nothing", x.drop(sheet), -11);
        }
        StepRings y = new StepRings();
        x.way(0, 1, 5, 0);
        due.is("1 objects share nothing", y.count(0), 0);
    }

    private static void way() {
        StepRings x = new StepRings();
        due.is("2 first", x.way(0, 1, 1, -9), 0);
        due.is("2 second", x.way(11, 0, 99, 9), 1);
        due.is("2 more than one between two", x.way(0, 1, 1, -9), 2);
        int[][] bad = {
            {-1, 1, 5, 0}, {12, 1, 5, 0}, {0, -1, 5, 0}, {0, 12, 5, 0}, {3, 3, 5, 0}, {0, 1, 0, 0}, {0, 1, 100, 0},
            {0, 1, 5, -10}, {0, 1, 5, 10}, {MIN, 1, 5, 0}, {MAX, 1, 5, 0}, {0, MIN, 5, 0}, {0, MAX, 5, 0},
            {0, 1, MIN, 0}, {0, 1, MAX, 0}, {0, 1, 5, MIN}, {0, 1, 5, MAX}};
        for (int[] b : bad) {
            due.is("2 bad", x.way(b[0], b[1], b[2], b[3]), -1);
        }
        due.is("2 bad ones do not come", x.count(0), 3);
        for (int i = 3; i < 24; i++) {
            due.is("2 number", x.way(i % 11, 11, 5, 0), i);
        }
        due.is("2 full", x.way(0, 1, 5, 0), -3);
        due.is("2 bad comes first", x.way(0, 0, 5, 0), -1);
        due.is("2 still 24", x.count(0), 24);
    }

    private static void gate() {
        StepRings x = Due.made("ab5,bc5g", "");
        due.is("3 none was", x.gate(0, true), 0);
        due.is("3 one was", x.gate(0, true), 1);
        due.is("3 one was, taken", x.gate(0, false), 1);
        due.is("3 none again", x.gate(0, false), 0);
        due.is("3 of a text", x.gate(1, false), 1);
        due.is("3 told", x.told(1, 4), 0);
        for (int bad : new int[] {-1, 2, 23, 24, MIN, MAX}) {
            due.is("3 bad", x.gate(bad, true), -1);
        }
    }

    private static void told() {
        StepRings x = new StepRings();
        x.way(3, 11, 99, -9);
        x.way(0, 1, 1, 9);
        x.gate(1, true);
        int[][] want = {{3, 11, 99, -9, 0}, {0, 1, 1, 9, 1}};
        for (int way = 0; way < 2; way++) {
            for (int what = 0; what < 5; what++) {
                due.is("4 told(" + way + ", " + what + ")", x.told(way, what), want[way][what]);
            }
        }
        for (int bad : new int[] {-1, 2, 24, MIN, MAX}) {
            for (int what = -1; what <= 5; what++) {
                due.is("4 bad way", x.told(bad, what), -100001);
            }
        }
        for (int bad : new int[] {-1, 5, MIN, MAX}) {
            due.is("4 bad what", x.told(0, bad), -100001);
        }
    }

    private static void person() {
        StepRings x = new StepRings();
        due.is("5 first", x.person(0, 0, 0), 0);
        due.is("5 second", x.person(11, 3, 99999), 1);
        int[][] bad = {
            {-1, 0, 5}, {12, 0, 5}, {0, -1, 5}, {0, 4, 5}, {0, 0, -1}, {0, 0, 100000},
            {MIN, 0, 5}, {MAX, 0, 5}, {0, MIN, 5}, {0, MAX, 5}, {0, 0, MIN}, {0, 0, MAX}};
        for (int[] b : bad) {
            due.is("5 bad", x.person(b[0], b[1], b[2]), -1);
        }
        due.is("5 bad ones do not come", x.count(1), 2);
        for (int i = 2; i < 8; i++) {
            due.is("5 number", x.person(i, 1, 7), i);
        }
        due.is("5 full", x.person(0, 0, 5), -3);
        due.is("5 bad comes first", x.person(0, 4, 5), -1);
        due.is("5 still 8", x.count(1), 8);
    }

    private static void of() {
        StepRings x = Due.made("ab5g,bc7", "cp99999,ag50");
        due.is("6 home", x.of(0, 0), 2);
        due.is("6 kind", x.of(0, 1), 3);
        due.is("6 ring", x.of(0, 2), 99999);
        due.is("6 place", x.of(0, 3), 2);
        due.is("6 gates", x.of(0, 4), 0);
        x.go(1, 2);
        due.is("6 home stays", x.of(1, 0), 0);
        due.is("6 ring is less", x.of(1, 2), 38);
        due.is("6 place now", x.of(1, 3), 2);
        due.is("6 gates count the one with a gate", x.of(1, 4), 5);
        for (int bad : new int[] {-1, 2, 8, MIN, MAX}) {
            due.is("6 bad person", x.of(bad, 0), -1);
        }
        for (int bad : new int[] {-1, 5, MIN, MAX}) {
            due.is("6 bad what", x.of(0, bad), -1);
        }
    }

    private static void costs() {
        StepRings x = Due.made("a+3b21,a-2b20,ab1,a+1b1,ab99,a+9b99,ab3", "ag0,ac0,ao0,ap0");
        int[][][] want = {
            {{30, 60, 40, 20}, {21, 42, 21, 10}},
            {{20, 40, 20, 10}, {26, 52, 36, 18}},
            {{1, 2, 1, 1}, {1, 2, 1, 1}},
            {{4, 8, 4, 2}, {1, 2, 1, 1}},
            {{99, 198, 99, 49}, {99, 198, 99, 49}},
            {{126, 252, 175, 87}, {99, 198, 99, 49}},
            {{3, 6, 3, 1}, {3, 6, 3, 1}}};
        for (int way = 0; way < want.length; way++) {
            for (int from = 0; from < 2; from++) {
                for (int p = 0; p < 4; p++) {
                    due.is("7 costs(" + p + ", " + way + ", " + from + ")", x.costs(p, way, from), want[way][from][p]);
                }
            }
        }
        for (int bad : new int[] {-1, 4, 8, MIN, MAX}) {
            due.is("7 bad person", x.costs(bad, 0, 0), -1);
        }
        for (int bad : new int[] {-1, 7, 24, MIN, MAX}) {
            due.is("7 bad way", x.costs(0, bad, 0), -1);
        }
        for (int bad : new int[] {-1, 2, MIN, MAX}) {
            due.is("7 bad from", x.costs(0, 0, bad), -1);
        }
    }

    private static void far() {
        StepRings x = Due.made("a+9b10,bc10,ac40,de1", "ag0,lc0");
        due.is("8 over a place that is above", x.far(0, 0, 2), 40);
        due.is("8 back", x.far(0, 2, 0), 20);
        due.is("8 a child", x.far(1, 2, 0), 40);
        due.is("8 the same", x.far(0, 7, 7), 0);
        due.is("8 none", x.far(0, 0, 3), -4);
        due.is("8 none to a place without ways", x.far(0, 0, 11), -4);
        x.way(2, 3, 1, 0);
        due.is("8 a new way is seen", x.far(0, 0, 4), 42);
        Due.town(x, "ab3");
        due.is("8 a new town is seen", x.far(0, 0, 1), 3);
        due.is("8 a new town is seen, none", x.far(0, 0, 2), -4);
        int[][] bad = {{-1, 0, 0}, {2, 0, 0}, {0, -1, 0}, {0, 12, 0}, {0, 0, -1}, {0, 0, 12}, {MIN, 0, 0}, {0, MAX, 0}, {0, 0, MIN}};
        for (int[] b : bad) {
            due.is("8 bad", x.far(b[0], b[1], b[2]), -1);
        }
    }

    private static void given() {
        StepRings x = Due.made("", "ag1,ac1,ao1,ap1");
        int[] first = {400, 300, 500, 900};
        for (int kind = 0; kind < 4; kind++) {
            due.is("9 at first", x.given(kind, kind), first[kind]);
            due.is("9 then", x.given(kind, 9999 * (kind & 1)), kind);
        }
        int[][] bad = {{-1, 5}, {4, 5}, {0, -1}, {0, 10000}, {MIN, 5}, {MAX, 5}, {0, MIN}, {0, MAX}};
        for (int[] b : bad) {
            due.is("9 bad", x.given(b[0], b[1]), -1);
        }
        due.is("9 bad changes nothing", x.given(0, 0), 0);
        x.month();
        for (int kind = 0; kind < 4; kind++) {
            due.is("9 is what is given", x.of(kind, 2), 9999 * (kind & 1));
        }
    }

    private static void rule() {
        StepRings x = new StepRings();
        due.is("10 at first", x.rule(2), 0);
        due.is("10 was 2", x.rule(1), 2);
        for (int bad : new int[] {-1, 3, MIN, MAX}) {
            due.is("10 bad", x.rule(bad), -1);
        }
        due.is("10 was 1", x.rule(0), 1);
        due.is("10 was 0", x.rule(0), 0);
    }

    private static void type() {
        StepRings x = new StepRings();
        for (int bad : new int[] {0, -1, 9, MIN, MAX}) {
            due.is("11 bad n", x.type(Due.packed("aaaaaaaa"), bad), -1);
        }
        due.is("11 below 32", x.type(0x611FL, 2), -1);
        due.is("11 above 126", x.type(0x7F61L, 2), -1);
        due.is("11 above 127", x.type(0xFF61L, 2), -1);
        due.is("11 the highest of eight", x.type(0x8061616161616161L, 8), -1);
        due.is("11 higher bytes do not count", x.type(-1L << 8 | 'a', 1), 1);
        due.is("11 32 and 126", x.type(0x207EL, 2), 3);
        due.is("11 what was typed", x.town(), -22);
        due.is("11 highest first", Due.type(x, "ab5"), 3);
        due.is("11 highest first, read", x.town(), 1);
        due.is("11 two rows", Due.type(x, "ab5,bc77,cd8"), 12);
        due.is("11 two rows, read", x.town(), 3);
        due.is("11 two rows, told", x.told(1, 2), 77);
        for (int i = 1; i <= 19; i++) {
            due.is("11 more", x.type(Due.packed("        "), 8), 8 * i);
        }
        due.is("11 159", x.type(Due.packed("       "), 7), 159);
        due.is("11 full", x.type(Due.packed("  "), 2), -3);
        due.is("11 bad before full", x.type(0, 8), -1);
        due.is("11 160", x.type(Due.packed(" "), 1), 160);
        due.is("11 full at 160", x.type(Due.packed(" "), 1), -3);
        due.is("11 the end of 160", x.town(), -180);
        due.is("11 empty then", Due.type(x, "a"), 1);
    }

    private static void town() {
        StepRings x = Due.made("ab1,bc1,cd1", "ag100");
        x.errand(3);
        x.go(0, 2);
        due.is("12 three", Due.town(x, "a+3l20g, l-9 b 1 ,b+0a99"), 3);
        int[][] want = {{0, 11, 20, 3, 1}, {11, 1, 1, -9, 0}, {1, 0, 99, 0, 0}};
        for (int way = 0; way < 3; way++) {
            for (int what = 0; what < 5; what++) {
                due.is("12 told(" + way + ", " + what + ")", x.told(way, what), want[way][what]);
            }
        }
        due.is("12 in place of all", x.count(0), 3);
        due.is("12 people stay", x.of(0, 3), 2);
        due.is("12 errands stay", x.count(2), 1);
        due.is("12 the tape is empty", x.town(), -20);
        due.is("12 those told stay", x.count(0), 3);
        due.is("12 zeros ahead", Due.town(x, "ab0099"), 1);
        due.is("12 zeros ahead, told", x.told(0, 2), 99);
        due.is("12 a gate behind blanks", Due.town(x, "  ab7  g  "), 1);
        due.is("12 a gate behind blanks, told", x.told(0, 4), 1);
        StringBuilder most = new StringBuilder("ab1");
        for (int i = 1; i < 24; i++) {
            most.append(",ab").append(i);
        }
        due.is("12 twenty-four", Due.town(x, most.toString()), 24);
        due.is("12 the last", x.told(23, 2), 23);
        due.is("12 full then", x.way(0, 1, 5, 0), -3);
    }

    private static void townFaults() {
        StepRings x = Due.made("ab5", "");
        Object[][] faults = {
            {"   ", -23}, {"m", -20}, {"A", -20}, {"5", -20}, {",", -20}, {"+", -20}, {"a", -21}, {"a  ", -23}, {"a5", -21}, {"aa", -21},
            {"am", -21}, {"a,", -21}, {"a+", -22}, {"a-", -22}, {"a+-", -22}, {"a++3b5", -22}, {"a+b", -22}, {"a+3", -23},
            {"a+33", -23}, {"a+3a5", -23}, {"a + 3 a 5", -26}, {"ab", -22}, {"abg", -22}, {"ab+3", -22}, {"ab0", -22}, {"ab00", -22},
            {"ab100", -22}, {"ab  100", -24}, {"ab99999999999999999999", -22}, {"ab4294967297", -22}, {"ab100x", -22}, {"ab1x", -23},
            {"ab1 1", -24}, {"ab1gg", -24}, {"ab1G", -23}, {"ab1g5", -24}, {"ab1,", -24}, {"ab1,,", -24}, {"ab1, ", -25},
            {"ab1,m", -24}, {"ab1,bb", -25}, {"ab1;bc1", -23}, {"ab1 bc1", -24}, {"ab1g,bc1g,ca0", -32}, {"ab-5", -22}};
        for (Object[] f : faults) {
            due.is("12 '" + f[0] + "'", Due.town(x, (String) f[0]), (Integer) f[1]);
            due.is("12 those told stay", x.count(0), 1);
            due.is("12 the length told stays", x.told(0, 2), 5);
        }
        StringBuilder many = new StringBuilder("ab1");
        for (int i = 1; i < 24; i++) {
            many.append(",ab1");
        }
        due.is("12 a 25th", Due.town(x, many + " ,ab1"), -20 - 96);
        due.is("12 a comma at the end of 24", Due.town(x, many + ","), -20 - 95);
        due.is("12 a sign at the end of 24", Due.town(x, many + "x"), -20 - 95);
        due.is("12 blanks at the end of 24", Due.town(x, many + "  "), 24);
    }

    private static void people() {
        StepRings x = Due.made("ab5g", "ag400,bc300");
        x.go(0, 1);
        x.lend(0, 1, 10);
        x.image();
        due.is("13 four", Due.people(x, "lg0, k c 99999 ,ao00005,bp900"), 4);
        int[][] want = {{11, 0, 0}, {10, 1, 99999}, {0, 2, 5}, {1, 3, 900}};
        for (int p = 0; p < 4; p++) {
            for (int what = 0; what < 3; what++) {
                due.is("13 of(" + p + ", " + what + ")", x.of(p, what), want[p][what]);
            }
            due.is("13 at home", x.of(p, 3), want[p][0]);
            due.is("13 gates count 0", x.of(p, 4), 0);
        }
        due.is("13 nothing is owed", x.count(4), 0);
        due.is("13 spent stays", x.count(5), 5);
        x.sheet(0, 1, 4);
        x.film(0, 1, 0);
        due.is("13 nothing came and went", x.lies(0, 1, 0), 0);
        x.item(0, 1, 0, -1);
        due.is("13 nothing came and went, one less", x.lies(0, 1, 0), 1);
        x.restore();
        due.is("13 two again", x.count(1), 2);
        due.is("13 the tape is empty", x.people(), -20);
        due.is("13 eight", Due.people(x, "ag1,ag1,ag1,ag1,ag1,ag1,ag1,ag8 "), 8);
        due.is("13 the last", x.of(7, 2), 8);
        due.is("13 full then", x.person(0, 0, 0), -3);
    }

    private static void peopleFaults() {
        StepRings x = Due.made("", "ag7");
        Object[][] faults = {
            {"  ", -22}, {"m", -20}, {"g5", -21}, {"a", -21}, {"aa", -21}, {"aG", -21}, {"a5", -21}, {"a g", -23}, {"ag", -22}, {"agg", -22},
            {"ag-1", -22}, {"ag100000", -22}, {"ag 100000", -23}, {"ag99999999999", -22}, {"ag4294967296", -22}, {"ag5x", -23}, {"ag5g", -23},
            {"ag5 5", -24}, {"ag5,", -24}, {"ag5, ", -25}, {"ag5,,", -24}, {"ag5,x", -24}, {"ag5,bx", -25}, {"ag5,bc", -26},
            {"ag5,bc100000", -26}, {"ag1,ag1,ag1,ag1,ag1,ag1,ag1,ag1,", -51}, {"ag1,ag1,ag1,ag1,ag1,ag1,ag1,ag1 ,ag1", -52}};
        for (Object[] f : faults) {
            due.is("13 '" + f[0] + "'", Due.people(x, (String) f[0]), (Integer) f[1]);
            due.is("13 those told stay", x.count(1), 1);
            due.is("13 the ring told stays", x.of(0, 2), 7);
        }
    }

    private static void count() {
        StepRings x = Due.made("ab5,bc5", "ag400,ac300,co99999");
        x.errand(1);
        x.errand(1);
        x.lend(0, 1, 30);
        x.lend(1, 0, 20);
        x.go(0, 2);
        x.go(1, 1);
        x.carry(0, 2, 1);
        due.is("14 ways", x.count(0), 2);
        due.is("14 people", x.count(1), 3);
        due.is("14 errands", x.count(2), 2);
        due.is("14 rings", x.count(3), 400 + 300 + 99999 - 30);
        due.is("14 owed", x.count(4), 50);
        due.is("14 spent", x.count(5), 10 + 10 + 10);
        x.month();
        due.is("14 spent stays at month's end", x.count(5), 30);
        for (int bad : new int[] {-1, 6, MIN, MAX}) {
            due.is("14 bad", x.count(bad), -1);
        }
    }
}
