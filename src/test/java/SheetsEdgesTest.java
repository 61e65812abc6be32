/** Promises 31 to 35, each sentence tried where it ends. */
final class SheetsEdgesTest {
    private static final int BAD = Edge.BAD, NULL = Edge.NULL, CAST = Edge.CAST, INDEX = Edge.INDEX, SIZE = Edge.SIZE;
    private static final int[] ENDS = {Integer.MIN_VALUE, Integer.MIN_VALUE + 1, Integer.MAX_VALUE - 1, Integer.MAX_VALUE};

    public static void main(String[] args) {
        sheetsAndLanes();
        nothingAtFirst();
        sheetOfNone();
        sheet();
        drop();
        itemsOfShorts();
        itemsOfInts();
        itemsOfLongs();
        item();
        inAndOut();
        lostStepsCameToo();
        sinceTheMonthsEnd();
        sinceOneCame();
        spentLessThanGatesCount();
        toldRingsOfLanes();
        toldRingsNearTheEndsOfLong();
        lies();
        filmOfLanes();
        film();
        ofNobody();
        Edge.end();
    }

    private static void sheetsAndLanes() {
        String said = "sheets 0 .. 3: nothing (at first), or a row of a LANE: 0 shorts, 1 ints, 2 longs, of 0 to 24 items.";
        for (int lane = 0; lane < 3; lane++) {
            Edge e = new Edge(32, said).after("person(0, 0, 0)");
            for (int sheet = 0; sheet < 4; sheet++) {
                e.is("sheet(" + sheet + ", " + lane + ", " + sheet + ")", sheet);
            }
            for (int sheet = 0; sheet < 4; sheet++) {
                e.refuses("item(" + sheet + ", " + lane + ", " + sheet + ", 5)", INDEX).refuses("item(" + sheet + ", " + (lane + 1) % 3 + ", 0, 5)", CAST)
                    .refuses("item(" + sheet + ", " + (lane + 2) % 3 + ", 0, 5)", CAST).is("drop(" + sheet + ")", sheet).refuses("drop(" + sheet + ")", NULL);
            }
            for (String call : new String[] {"sheet(#, " + lane + ", 1)", "drop(#)", "item(#, " + lane + ", 0, 5)", "film(#, " + lane + ", 0)", "lies(#, " + lane + ", 0)"}) {
                e.takesOnly(call, 0, 3);
            }
            e.after("sheet(0, " + lane + ", 1)");
            for (String call : new String[] {"sheet(0, #, 1)", "item(0, #, 0, 5)", "film(0, #, 0)", "lies(0, #, 0)"}) {
                e.takesOnly(call, 0, 2);
            }
        }
    }

    private static void nothingAtFirst() {
        Edge e = new Edge(33, "nothing (at first), or a row of a LANE").after("person(0, 0, 0)");
        for (int sheet = 0; sheet < 4; sheet++) {
            e.refuses("drop(" + sheet + ")", NULL);
            for (int lane = 0; lane < 3; lane++) {
                e.refuses("item(" + sheet + ", " + lane + ", 0, 5)", NULL).refuses("film(" + sheet + ", " + lane + ", 0)", NULL).refuses("lies(" + sheet + ", " + lane + ", 0)", NULL);
            }
        }
        // nothing is not a row of no items
        e.is("sheet(2, 1, 0)", 0).refuses("item(2, 1, 0, 5)", INDEX).refuses("item(3, 1, 0, 5)", NULL).is("drop(2)", 0).refuses("item(2, 1, 0, 5)", NULL);
    }

    private static void sheetOfNone() {
        Edge e = new Edge(32, "of 0 to 24 items.").after("person(0, 0, 0)").is("sheet(0, 1, 0)", 0).refuses("lies(0, 1, 0)", INDEX).refuses("film(0, 1, 0)", INDEX)
            .refuses("item(0, 1, 0, 5)", INDEX).refuses("item(0, 1, -1, 5)", INDEX);
        for (int n = 1; n <= 24; n++) {
            e.is("sheet(0, 1, " + n + ")", n).is("item(0, 1, " + (n - 1) + ", 5)", 1).refuses("item(0, 1, " + n + ", 5)", INDEX).is("lies(0, 1, " + (n - 1) + ")", 0)
                .refuses("lies(0, 1, " + n + ")", INDEX);
        }
    }

    private static void sheet() {
        new Edge(32, "A SHEET holds a new row of a LANE: n. BAD: also n above 24; SIZE: n below 0.").after("person(0, 0, 1)").is("sheet(3, 2, 24)", 24).is("sheet(3, 2, 0)", 0)
            .is("sheet(3, 2, 24)", 24).refusesEach("sheet(3, 2, #)", BAD, 25, 26, 1 << 16, Integer.MAX_VALUE - 1, Integer.MAX_VALUE)
            .refusesEach("sheet(3, 2, #)", SIZE, -1, -2, -24, Integer.MIN_VALUE + 1, Integer.MIN_VALUE).refusesEach("sheet(0, 0, #)", SIZE, -1, Integer.MIN_VALUE)
            .refusesEach("sheet(0, 0, #)", BAD, 25, Integer.MAX_VALUE).takesOnly("sheet(#, 0, 5)", 0, 3).takesOnly("sheet(0, #, 5)", 0, 2)
            .refusesEach("sheet(#, 0, -1)", BAD, -1, 4).refusesEach("sheet(0, #, -1)", BAD, -1, 3)
            // a new row: its items are 0, whatever was there, and the lane may be another one
            .after("item(3, 2, 0, 5)", "item(3, 2, 23, 5)").is("lies(3, 2, 0)", 0).is("lies(3, 2, 23)", 0).is("sheet(3, 2, 24)", 24).is("lies(3, 2, 0)", 1).is("lies(3, 2, 23)", 1)
            .after("item(3, 2, 7, 9)").is("sheet(3, 0, 8)", 8).refuses("lies(3, 2, 7)", CAST).is("lies(3, 0, 7)", 1).refuses("lies(3, 0, 8)", INDEX)
            // none of what was there is seen again in a longer row
            .after("item(3, 0, 7, 9)").is("sheet(3, 0, 3)", 3).is("sheet(3, 0, 8)", 8).is("lies(3, 0, 7)", 1);
    }

    private static void drop() {
        new Edge(33, "A SHEET holds nothing: how many items it had. BAD; NULL.").after("sheet(0, 0, 24)", "sheet(1, 1, 0)", "sheet(3, 2, 1)", "person(0, 0, 1)").takesOnly("drop(#)", 0, 3)
            .refuses("drop(2)", NULL).is("drop(0)", 24).is("drop(1)", 0).is("drop(3)", 1).refusesEach("drop(#)", NULL, 0, 1, 2, 3).takesOnly("drop(#)", 0, 3)
            .refuses("lies(0, 0, 0)", NULL).refuses("film(0, 0, 0)", NULL).refuses("item(0, 0, 0, 5)", NULL)
            // a new row then has nothing of the old one
            .after("sheet(0, 0, 2)", "item(0, 0, 1, 7)").is("drop(0)", 2).is("sheet(0, 0, 2)", 2).is("lies(0, 0, 1)", 1);
    }

    /** Whether item 0 of a sheet is v, told by who lies just below what is told, and does not lie at it. */
    private static Edge holds(Edge e, int lane, long set, int v) {
        return e.after("sheet(0, " + lane + ", 1)", "item(0, " + lane + ", 0, " + set + ")").people("ag" + v, 1).is("lies(0, " + lane + ", 0)", 0)
            .people("ag" + (v + 1), 1).is("lies(0, " + lane + ", 0)", 1);
    }

    /** Whether item 0 of a sheet is below 0. */
    private static Edge isBelow(Edge e, int lane, long set) {
        return e.people("ag0", 1).after("sheet(0, " + lane + ", 1)", "item(0, " + lane + ", 0, " + set + ")").is("lies(0, " + lane + ", 0)", 1);
    }

    private static void itemsOfShorts() {
        Edge e = new Edge(34, "becomes v, its lowest bits: 1.");
        for (long set : new long[] {5, 65536 + 5, -65536 + 5, (1L << 32) + 5, (5L << 48) + 5, Long.MIN_VALUE + 5, 0x7FFFFFFFFFFF0005L}) {
            holds(e, 0, set, 5);
        }
        holds(e, 0, 32767, 32767);
        holds(e, 0, -32769, 32767);
        holds(e, 0, 65536, 0);
        holds(e, 0, 65536 + 32767, 32767);
        for (long set : new long[] {-1, 32768, 65535, -32768, 99999, Integer.MAX_VALUE, Long.MAX_VALUE, 0x7FFFFFFFFFFF8000L}) {
            isBelow(e, 0, set);
        }
    }

    private static void itemsOfInts() {
        Edge e = new Edge(34, "becomes v, its lowest bits: 1.");
        for (long set : new long[] {99998, (1L << 32) + 99998, -(1L << 32) + 99998, Long.MIN_VALUE + 99998, 0x7FFFFFFF00000000L + 99998}) {
            holds(e, 1, set, 99998);
        }
        holds(e, 1, 1L << 32, 0);
        holds(e, 1, 32768, 32768);
        for (long set : new long[] {-1, Integer.MIN_VALUE, 1L << 31, (1L << 32) - 1, Long.MAX_VALUE, 0x7FFFFFFF80000000L}) {
            isBelow(e, 1, set);
        }
        e.people("ag99999", 1);
        for (long set : new long[] {Integer.MAX_VALUE, -(1L << 31) - 1, 100000}) {
            e.after("sheet(0, 1, 1)", "item(0, 1, 0, " + set + ")").is("lies(0, 1, 0)", 0);
        }
    }

    private static void itemsOfLongs() {
        Edge e = new Edge(34, "becomes v, its lowest bits: 1.");
        holds(e, 2, 99998, 99998);
        holds(e, 2, 0, 0);
        for (long set : new long[] {-1, Integer.MIN_VALUE, -(1L << 32), -(1L << 32) + 99998, Long.MIN_VALUE, Long.MIN_VALUE + 1, Long.MIN_VALUE + 99998}) {
            isBelow(e, 2, set);
        }
        e.people("ag99999", 1);
        for (long set : new long[] {Integer.MAX_VALUE, 1L << 31, 1L << 32, (1L << 32) - 1, Long.MAX_VALUE, Long.MAX_VALUE - 1, 1L << 62}) {
            e.after("sheet(0, 2, 1)", "item(0, 2, 0, " + set + ")").is("lies(0, 2, 0)", 0);
        }
    }

    private static void item() {
        Edge e = new Edge(34, "Item i of a SHEET, taken as a row of a LANE, becomes v, its lowest bits: 1. BAD; NULL; CAST; INDEX.").after("person(0, 0, 1)", "sheet(1, 1, 24)")
            .is("item(1, 1, 0, 5)", 1).is("item(1, 1, 23, MAX)", 1).is("item(1, 1, 22, MIN)", 1).takesOnly("item(#, 1, 0, 5)", 0, 3).takesOnly("item(1, #, 0, 5)", 0, 2)
            .refuses("item(0, 1, 0, 5)", NULL).refuses("item(1, 0, 0, 5)", CAST).refuses("item(1, 2, 0, 5)", CAST)
            .refusesEach("item(1, 1, #, 5)", INDEX, -1, 24, 25).refusesEach("item(1, 1, #, 5)", INDEX, ENDS);
        // one item alone
        e.after("sheet(1, 1, 3)", "item(1, 1, 1, 1)").is("lies(1, 1, 0)", 1).is("lies(1, 1, 1)", 0).is("lies(1, 1, 2)", 1).refuses("item(1, 1, 3, 5)", INDEX);
    }

    private static void inAndOut() {
        // of 0: out 30, in 10 and 4 back; of 1: in 30, out 10 and 4
        new Edge(31, "IN is what came to a RING by what was LENT and PAID BACK").people("ag100,ag50", 2).after("lend(0, 1, 30)", "lend(1, 0, 10)", "pay(1, 0, 4)", "sheet(0, 1, 2)")
            .after("item(0, 1, 0, 100)", "item(0, 1, 1, 50)").is("lies(0, 1, 0)", 0).after("item(0, 1, 0, 99)").is("lies(0, 1, 0)", 1).after("item(0, 1, 1, 49)").is("lies(0, 1, 0)", 3)
            .after("item(0, 1, 0, 100)").is("lies(0, 1, 0)", 2);
    }

    private static void lostStepsCameToo() {
        // of 0: 20 came, of which 11 were lost: so told is 11 less than the ring was
        new Edge(31, "(lost steps, too), OUT what went so.").people("ag99990,ag50,ag99999", 3).after("lend(1, 0, 20)", "sheet(0, 1, 3)", "film(0, 1, 0)")
            .after("item(0, 1, 0, 99979)", "item(0, 1, 1, 50)").is("lies(0, 1, 0)", 0).after("item(0, 1, 0, 99978)").is("lies(0, 1, 0)", 1).after("item(0, 1, 1, 49)").is("lies(0, 1, 0)", 3)
            // lost when paid back, too: 2 is full again and gets 5
            .after("lend(2, 1, 5)", "lend(0, 2, 5)", "pay(1, 2, 5)").is("of(2, 2)", 99999).after("item(0, 1, 0, 99979)", "item(0, 1, 1, 50)", "item(0, 1, 2, 99994)").is("lies(0, 1, 0)", 0)
            .after("item(0, 1, 2, 99993)").is("lies(0, 1, 0)", 4);
    }

    private static void sinceTheMonthsEnd() {
        new Edge(31, "LIES: since the last MONTH'S END (or since one came)").town("ab10g", 1).people("ag50,ag50", 2).after("go(0, 1)", "lend(0, 1, 20)", "sheet(0, 1, 2)")
            .after("item(0, 1, 0, 50)", "item(0, 1, 1, 50)").is("lies(0, 1, 0)", 0).is("month()", 20)
            // what is paid back at the month's end is of the month before
            .after("film(0, 1, 0)").is("lies(0, 1, 0)", 0).after("item(0, 1, 0, 399)", "item(0, 1, 1, 399)").is("lies(0, 1, 0)", 3)
            .after("lend(1, 0, 7)", "go(0, 1)", "item(0, 1, 0, 400)", "item(0, 1, 1, 400)").is("lies(0, 1, 0)", 0).after("item(0, 1, 0, 399)").is("lies(0, 1, 0)", 1);
    }

    private static void sinceOneCame() {
        new Edge(31, "(or since one came)").people("ag50,ag50", 2).after("lend(0, 1, 20)", "person(0, 0, 9)", "sheet(0, 1, 3)", "item(0, 1, 0, 50)", "item(0, 1, 1, 50)", "item(0, 1, 2, 9)")
            .is("lies(0, 1, 0)", 0).after("item(0, 1, 2, 8)").is("lies(0, 1, 0)", 4).after("lend(2, 0, 4)", "item(0, 1, 2, 9)").is("lies(0, 1, 0)", 0)
            // in place of these others come
            .people("ag7,ag8,ag9", 3).after("film(0, 1, 0)").is("lies(0, 1, 0)", 0).after("item(0, 1, 0, 6)", "item(0, 1, 1, 7)", "item(0, 1, 2, 8)").is("lies(0, 1, 0)", 7);
    }

    private static void spentLessThanGatesCount() {
        new Edge(31, "SPENT is a told RING of then, and IN, less OUT, less the RING now: who has SPENT less than GATES count LIES.").town("ab10g,bc5", 2).people("ag100,ac100,ag0", 3)
            .after("go(0, 2)", "go(1, 1)", "sheet(0, 1, 3)")
            // of 0: ring 85, gates count 10; of 1: ring 80, gates count 20; of 2: nothing
            .after("item(0, 1, 0, 95)", "item(0, 1, 1, 100)", "item(0, 1, 2, 0)").is("lies(0, 1, 0)", 0).after("item(0, 1, 0, 94)").is("lies(0, 1, 0)", 1)
            .after("item(0, 1, 1, 99)").is("lies(0, 1, 0)", 3).after("item(0, 1, 2, -1)").is("lies(0, 1, 0)", 7).after("item(0, 1, 0, 100)", "item(0, 1, 1, 101)").is("lies(0, 1, 0)", 4)
            // who is carried is not counted, who carries is counted for both
            .after("go(0, 1)").is("of(0, 2)", 80).after("carry(0, 1, 0)").is("of(0, 2)", 60).is("of(0, 4)", 30)
            .after("item(0, 1, 0, 90)", "item(0, 1, 1, 100)", "item(0, 1, 2, 0)").is("lies(0, 1, 0)", 0).after("item(0, 1, 0, 89)").is("lies(0, 1, 0)", 1)
            // a gate that is taken away takes nothing of what it counted
            .after("gate(0, false)").is("lies(0, 1, 0)", 1);
    }

    private static void toldRingsOfLanes() {
        Edge shorts = new Edge(31, "LIES: told RINGS at the month's begin of all PEOPLE, items of a SHEET, taken as a row of a LANE,").people("ag32767,ag32768,ag99999", 3);
        shorts.after("sheet(0, 0, 3)", "film(0, 0, 0)").is("lies(0, 0, 0)", 2 | 4).after("item(0, 0, 0, 32766)").is("lies(0, 0, 0)", 7);
        shorts.after("sheet(1, 1, 3)", "film(1, 1, 0)").is("lies(1, 1, 0)", 0).after("sheet(2, 2, 3)", "film(2, 2, 0)").is("lies(2, 2, 0)", 0)
            .after("item(2, 2, 2, 99998)", "item(1, 1, 1, 32767)").is("lies(2, 2, 0)", 4).is("lies(1, 1, 0)", 2);
    }

    /** By the words of the document: a sum of whole numbers, however large. */
    private static void toldRingsNearTheEndsOfLong() {
        Edge e = new Edge(31, "SPENT is a told RING of then, and IN, less OUT, less the RING now:").people("ag99999,ag0", 2).after("sheet(0, 2, 2)", "lend(0, 1, 99998)");
        // of 0: out 99998, ring 1; of 1: in 99998, ring 99998
        for (String v : new String[] {"MIN", String.valueOf(Long.MIN_VALUE + 1), String.valueOf(Long.MIN_VALUE + 99999), String.valueOf(-(1L << 62)), String.valueOf(-(1L << 32)), "-1"}) {
            e.after("item(0, 2, 0, " + v + ")", "item(0, 2, 1, " + v + ")").is("lies(0, 2, 0)", 3);
        }
        for (String v : new String[] {"MAX", String.valueOf(Long.MAX_VALUE - 1), String.valueOf(Long.MAX_VALUE - 99999), String.valueOf(1L << 62), String.valueOf(1L << 32), "99999"}) {
            e.after("item(0, 2, 0, " + v + ")", "item(0, 2, 1, " + v + ")").is("lies(0, 2, 0)", 0);
        }
        e.after("item(0, 2, 0, 99998)", "item(0, 2, 1, 0)").is("lies(0, 2, 0)", 1).after("item(0, 2, 0, 99999)", "item(0, 2, 1, -1)").is("lies(0, 2, 0)", 2);
    }

    private static void lies() {
        Edge e = new Edge(31, "from one on: who LIES, as a set. BAD; NULL; CAST; INDEX.").people("ag1,bg2,cg3", 3).after("sheet(0, 1, 24)", "sheet(1, 0, 3)", "sheet(2, 2, 2)")
            .takesOnly("lies(#, 1, 0)", 0, 3).takesOnly("lies(0, #, 0)", 0, 2).refuses("lies(3, 1, 0)", NULL).refuses("lies(0, 0, 0)", CAST).refuses("lies(0, 2, 0)", CAST)
            .refusesEach("lies(0, 1, #)", INDEX, -1, -3, 22, 23, 24).refusesEach("lies(0, 1, #)", INDEX, ENDS).is("lies(0, 1, 21)", 7).is("lies(0, 1, 0)", 7)
            .is("lies(1, 0, 0)", 7).refuses("lies(1, 0, 1)", INDEX).refuses("lies(1, 0, -1)", INDEX).refuses("lies(2, 2, 0)", INDEX);
        e.after("item(0, 1, 21, 1)").is("lies(0, 1, 21)", 6).is("lies(0, 1, 20)", 7).is("lies(0, 1, 19)", 7).after("item(0, 1, 23, 3)").is("lies(0, 1, 21)", 2).after("item(0, 1, 22, 2)").is("lies(0, 1, 21)", 0)
            // nothing is changed by asking
            .is("lies(0, 1, 21)", 0).is("of(0, 2)", 1);
    }

    private static void filmOfLanes() {
        // 32768 and 99999 are below 0 as shorts, 65536 is 0, 65541 is 5
        Edge e = new Edge(35, "from one on (their lowest bits): how many.").people("ag32767,ag32768,ag65535,ag65536,ag65541,ag99999", 6).after("sheet(0, 0, 6)").is("film(0, 0, 0)", 6)
            .people("ag32767,ag0,ag0,ag0,ag5,ag0", 6).is("lies(0, 0, 0)", 2 | 4 | 32).people("ag32768,ag0,ag0,ag1,ag6,ag0", 6).is("lies(0, 0, 0)", 63);
        e.people("ag0,ag99999,ag99998", 3).after("sheet(1, 1, 3)", "sheet(2, 2, 3)").is("film(1, 1, 0)", 3).is("film(2, 2, 0)", 3).is("lies(1, 1, 0)", 0).is("lies(2, 2, 0)", 0)
            .people("ag1,ag99999,ag99999", 3).is("lies(1, 1, 0)", 5).is("lies(2, 2, 0)", 5);
    }

    private static void film() {
        Edge e = new Edge(35, "RINGS of all PEOPLE come to a SHEET, taken as a row of a LANE, from one on (their lowest bits): how many. BAD; NULL; CAST; INDEX.").people("ag1,bg2,cg3", 3)
            .after("sheet(0, 1, 24)", "sheet(1, 0, 3)", "sheet(2, 2, 2)").takesOnly("film(#, 1, 0)", 0, 3).takesOnly("film(0, #, 0)", 0, 2).refuses("film(3, 1, 0)", NULL)
            .refuses("film(0, 0, 0)", CAST).refuses("film(0, 2, 0)", CAST).refusesEach("film(0, 1, #)", INDEX, -1, -2, -3, 22, 23, 24).refusesEach("film(0, 1, #)", INDEX, ENDS)
            .refuses("film(1, 0, 1)", INDEX).refuses("film(1, 0, -1)", INDEX).refuses("film(2, 2, 0)", INDEX).is("film(1, 0, 0)", 3).is("lies(1, 0, 0)", 0);
        // the first and the last place, and nothing beside it
        e.is("film(0, 1, 21)", 3).is("lies(0, 1, 21)", 0).is("lies(0, 1, 20)", 7).is("lies(0, 1, 18)", 7).is("film(0, 1, 0)", 3).is("lies(0, 1, 0)", 0).is("lies(0, 1, 3)", 7)
            // rings as they are now, of as many as there are now
            .after("lend(2, 0, 3)").is("film(0, 1, 0)", 3).people("ag4,bg2,cg0,dg0", 4).is("lies(0, 1, 0)", 0).is("film(0, 1, 20)", 4).refuses("film(0, 1, 21)", INDEX).refuses("film(1, 0, 0)", INDEX)
            .people("ag1,ag1,ag1,ag1,ag1,ag1,ag1,ag1", 8).is("film(0, 1, 16)", 8).refuses("film(0, 1, 17)", INDEX);
    }

    private static void ofNobody() {
        ofNobody(new Edge(31, "from one on: who LIES, as a set. BAD; NULL; CAST; INDEX."), "lies(#)");
        ofNobody(new Edge(35, "from one on (their lowest bits): how many. BAD; NULL; CAST; INDEX."), "film(#)");
    }

    /** No items are needed for nobody; but beyond the row there is none to begin at. */
    private static void ofNobody(Edge e, String call) {
        e.after("sheet(0, 1, 3)", "sheet(1, 1, 0)");
        for (String good : new String[] {"0, 1, 0", "0, 1, 2", "0, 1, 3", "1, 1, 0"}) {
            e.is(call.replace("#", good), 0);
        }
        for (String beyond : new String[] {"0, 1, 4", "0, 1, -1", "1, 1, 1", "1, 1, -1"}) {
            e.refuses(call.replace("#", beyond), INDEX);
        }
        e.refuses(call.replace("#", "2, 1, 0"), NULL).refuses(call.replace("#", "0, 0, 0"), CAST).refuses(call.replace("#", "0, 3, 0"), BAD)
            .refuses(call.replace("#", "4, 1, 0"), BAD);
    }
}
