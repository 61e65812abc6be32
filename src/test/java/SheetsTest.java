/** Promises 31 to 35. */
final class SheetsTest {
    private static final int MIN = Integer.MIN_VALUE, MAX = Integer.MAX_VALUE;
    private static final Due due = new Due();

    public static void main(String[] args) {
        sheet();
        drop();
        item();
        itemsByLanes();
        lies();
        liesByLanes();
        liesOfInAndOut();
        film();
        nobody();
        due.end();
    }

    /** Item i of a sheet, found by asking at which told rings the one person, whose ring is 0, lies. */
    private static boolean isBelowZero(StepRings x, int sheet, int lane, int i) {
        return x.lies(sheet, lane, i) == 1;
    }

    private static void sheet() {
        StepRings x = Due.made("", "ag0");
        for (int lane = 0; lane < 3; lane++) {
            due.is("32 none", x.sheet(lane, lane, 0), 0);
            due.is("32 most", x.sheet(lane, lane, 24), 24);
            due.is("32 its lane", x.item(lane, lane, 23, -1), 1);
            due.is("32 another lane", x.item(lane, (lane + 1) % 3, 0, 1), -12);
            due.is("32 an item", x.lies(lane, lane, 23), 1);
            due.is("32 anew", x.sheet(lane, lane, 24), 24);
            due.is("32 anew, all 0", x.lies(lane, lane, 23), 0);
        }
        due.is("32 in place of another lane", x.sheet(0, 2, 3), 3);
        due.is("32 the old lane", x.item(0, 0, 0, 1), -12);
        due.is("32 the new one", x.item(0, 2, 0, 1), 1);
        due.is("32 size", x.sheet(0, 0, -1), -14);
        due.is("32 size", x.sheet(0, 0, MIN), -14);
        due.is("32 refused changes nothing", x.item(0, 2, 2, 1), 1);
        due.is("32 bad n", x.sheet(0, 0, 25), -1);
        due.is("32 bad n", x.sheet(0, 0, MAX), -1);
        int[][] bad = {{-1, 0}, {4, 0}, {MIN, 0}, {MAX, 0}, {0, -1}, {0, 3}, {0, MIN}, {0, MAX}};
        for (int[] b : bad) {
            due.is("32 bad", x.sheet(b[0], b[1], 5), -1);
            due.is("32 bad before size", x.sheet(b[0], b[1], -5), -1);
        }
        due.is("32 each for itself", x.drop(3), -11);
    }

    private static void drop() {
        StepRings x = new StepRings();
        due.is("33 nothing", x.drop(0), -11);
        x.sheet(0, 1, 7);
        x.sheet(3, 1, 0);
        due.is("33 seven", x.drop(0), 7);
        due.is("33 nothing then", x.drop(0), -11);
        due.is("33 none but a row", x.drop(3), 0);
        due.is("33 nothing then", x.drop(3), -11);
        for (int bad : new int[] {-1, 4, MIN, MAX}) {
            due.is("33 bad", x.drop(bad), -1);
        }
    }

    private static void refusals(String what, StepRings x, int which) {
        int[][] bad = {{-1, 0}, {4, 0}, {0, -1}, {0, 3}, {MIN, 0}, {0, MAX}, {3, -1}};
        for (int[] b : bad) {
            due.is(what + " bad", ask(x, which, b[0], b[1], 0), -1);
            due.is(what + " bad before index", ask(x, which, b[0], b[1], -1), -1);
        }
        x.sheet(0, 1, 4);
        x.drop(3);
        due.is(what + " null", ask(x, which, 3, 0, 0), -11);
        due.is(what + " null before index", ask(x, which, 3, 0, -1), -11);
        due.is(what + " cast", ask(x, which, 0, 0, 0), -12);
        due.is(what + " cast", ask(x, which, 0, 2, 0), -12);
        due.is(what + " cast before index", ask(x, which, 0, 2, 4), -12);
        for (int i : new int[] {-1, 4, 5, 24, MIN, MAX, MAX - 1}) {
            due.is(what + " index", ask(x, which, 0, 1, i), -13);
        }
        x.sheet(0, 1, 0);
        due.is(what + " index of none", ask(x, which, 0, 1, 0), -13);
    }

    private static int ask(StepRings x, int which, int sheet, int lane, int from) {
        switch (which) {
            case 0: return x.lies(sheet, lane, from);
            case 1: return x.item(sheet, lane, from, 5);
            default: return x.film(sheet, lane, from);
        }
    }

    private static void item() {
        StepRings x = Due.made("", "ag0");
        refusals("34", x, 1);
        x.sheet(0, 1, 3);
        due.is("34 one", x.item(0, 1, 2, -1), 1);
        due.is("34 none else", x.lies(0, 1, 1), 0);
        due.is("34 one, told", x.lies(0, 1, 2), 1);
        due.is("34 index", x.item(0, 1, 3, -1), -13);
    }

    private static void itemsByLanes() {
        StepRings x = Due.made("", "ag0");
        long[] values = {
            0, 1, -1, 32767, 32768, 65535, 65536, -32768, -32769, 98304, MAX, MIN, 1L << 31, 1L << 32, (1L << 32) - 1, -(1L << 31) - 1,
            Long.MAX_VALUE, Long.MIN_VALUE, 1L << 63 | 5};
        for (long v : values) {
            x.sheet(0, 0, 1);
            x.sheet(1, 1, 1);
            x.sheet(2, 2, 1);
            x.item(0, 0, 0, v);
            x.item(1, 1, 0, v);
            x.item(2, 2, 0, v);
            due.holds("34 short of " + v, isBelowZero(x, 0, 0, 0) == (short) v < 0);
            due.holds("34 int of " + v, isBelowZero(x, 1, 1, 0) == (int) v < 0);
            due.holds("34 long of " + v, isBelowZero(x, 2, 2, 0) == v < 0);
        }
    }

    private static void lies() {
        StepRings x = Due.made("ab20,b+1c15g", "ag400,bc300");
        refusals("31", x, 0);
        x.go(0, 2);
        x.go(1, 2);
        // gates count 18 and 36; rings are 362 and 264
        x.sheet(0, 1, 24);
        x.item(0, 1, 5, 380);
        x.item(0, 1, 6, 300);
        due.is("31 nobody", x.lies(0, 1, 5), 0);
        x.item(0, 1, 5, 379);
        due.is("31 the first", x.lies(0, 1, 5), 1);
        x.item(0, 1, 6, 299);
        due.is("31 both", x.lies(0, 1, 5), 3);
        x.item(0, 1, 5, 380);
        due.is("31 the second", x.lies(0, 1, 5), 2);
        due.is("31 to the last item", x.lies(0, 1, 22), 3);
        due.is("31 one too far", x.lies(0, 1, 23), -13);
        x.gate(1, false);
        due.is("31 what was counted stays", x.lies(0, 1, 5), 2);
    }

    private static void liesByLanes() {
        StepRings x = Due.made("", "ag0,ag0");
        x.sheet(2, 2, 2);
        x.item(2, 2, 0, Long.MIN_VALUE);
        x.item(2, 2, 1, Long.MAX_VALUE);
        due.is("31 the least and the most", x.lies(2, 2, 0), 1);
        x.person(0, 0, 99999);
        x.lend(2, 0, 5);
        x.lend(2, 1, 5);
        x.sheet(2, 2, 3);
        x.item(2, 2, 0, Long.MIN_VALUE);
        x.item(2, 2, 1, Long.MAX_VALUE);
        x.item(2, 2, 2, Long.MIN_VALUE);
        due.is("31 nothing wraps around", x.lies(2, 2, 0), 5);
        x.sheet(0, 0, 3);
        x.item(0, 0, 2, 99999);
        due.is("31 shorts are too short for it", x.lies(0, 0, 0), 4);
        x.sheet(1, 1, 3);
        x.item(1, 1, 2, 99999);
        due.is("31 ints are not", x.lies(1, 1, 0), 0);
    }

    private static void liesOfInAndOut() {
        StepRings x = Due.made("ab10g", "ag99990,ag50");
        x.sheet(0, 1, 2);
        x.lend(1, 0, 20);
        x.pay(0, 1, 5);
        // of 0: in 20, of them 11 lost, out 5, ring 99994; of 1: in 5, out 20, ring 35
        x.item(0, 1, 0, 99979);
        x.item(0, 1, 1, 50);
        due.is("31 lost steps came, too", x.lies(0, 1, 0), 0);
        x.item(0, 1, 0, 99978);
        due.is("31 lost steps came, one less", x.lies(0, 1, 0), 1);
        x.item(0, 1, 1, 49);
        due.is("31 both one less", x.lies(0, 1, 0), 3);
        x.carry(0, 1, 1);
        // 20 through the gate, taken from the ring: spent is 20 more and so is what is counted
        due.is("31 a gate that is paid for", x.lies(0, 1, 0), 3);
        x.item(0, 1, 0, 99979);
        due.is("31 a gate that is paid for, as told", x.lies(0, 1, 0), 2);
        x.person(0, 0, 7);
        x.sheet(0, 1, 3);
        x.item(0, 1, 0, 99999);
        x.item(0, 1, 1, 99999);
        x.item(0, 1, 2, 6);
        due.is("31 since one came", x.lies(0, 1, 0), 4);
        x.rule(1);
        x.month();
        x.film(0, 1, 0);
        due.is("31 since the month's end", x.lies(0, 1, 0), 0);
    }

    private static void film() {
        StepRings x = Due.made("", "ag400,bc99999,co0");
        refusals("35", x, 2);
        x.sheet(0, 1, 5);
        x.item(0, 1, 1, -7);
        due.is("35 three", x.film(0, 1, 2), 3);
        due.is("35 rings are told", x.lies(0, 1, 2), 0);
        due.is("35 those ahead stay", x.lies(0, 1, 1), 1 | 2);
        due.is("35 one too far", x.film(0, 1, 3), -13);
        x.item(0, 1, 2, 0);
        x.item(0, 1, 3, 0);
        x.item(0, 1, 4, -1);
        due.is("35 one too far", x.film(0, 1, 3), -13);
        due.is("35 what is refused changes nothing", x.lies(0, 1, 2), 7);
        x.sheet(1, 0, 3);
        x.sheet(2, 2, 3);
        due.is("35 shorts", x.film(1, 0, 0), 3);
        due.is("35 99999 is none", x.lies(1, 0, 0), 2);
        due.is("35 longs", x.film(2, 2, 0), 3);
        due.is("35 longs, told", x.lies(2, 2, 0), 0);
        StepRings y = Due.made("", "ag65535,ag65536,ag32768,ag98303");
        y.sheet(1, 0, 4);
        y.film(1, 0, 0);
        Due.people(y, "ag0,ag1,ag0,ag0");
        due.is("35 lowest bits", y.lies(1, 0, 0), 1 | 2 | 4);
        due.is("35 of rings as they are", y.film(1, 0, 0), 4);
        due.is("35 of rings as they are, told", y.lies(1, 0, 0), 0);
    }

    private static void nobody() {
        StepRings x = new StepRings();
        x.sheet(0, 1, 3);
        due.is("31 nobody lies", x.lies(0, 1, 0), 0);
        due.is("31 nobody lies at the end", x.lies(0, 1, 3), 0);
        due.is("31 beyond the end", x.lies(0, 1, 4), -13);
        due.is("31 before the first", x.lies(0, 1, -1), -13);
        due.is("35 nobody", x.film(0, 1, 3), 0);
        due.is("35 beyond the end", x.film(0, 1, 4), -13);
        due.is("35 null", x.film(1, 1, 0), -11);
        due.is("35 cast", x.film(0, 0, 0), -12);
    }
}
