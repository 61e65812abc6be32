/** What 'Terms' says of all calls, tried where it ends. The number is that of a promise for which it is tried. */
final class TermsEdgesTest {
    private static final int BAD = Edge.BAD, NOT = Edge.NOT, FULL = Edge.FULL, NONE = Edge.NONE;
    private static final int NULL = Edge.NULL, CAST = Edge.CAST, INDEX = Edge.INDEX, SIZE = Edge.SIZE;

    public static void main(String[] args) {
        answersOfRefusals();
        firstThatACallNames();
        firstThatACallNamesWhenFull();
        firstThatACarryNames();
        firstThatHousesName();
        machineFindsBehindBad();
        hundredThousandLess();
        refusedWaysAndPeople();
        refusedGoing();
        refusedHouses();
        refusedSheets();
        refusedWhenFull();
        refusedOfNothing();
        changesAsTold();
        setsAreBits();
        divisionsAreCut();
        asManyCallsAsPromised();
        Edge.end();
    }

    private static void answersOfRefusals() {
        String said = "promise 1, 'Refusals are answers': ";
        Edge.same(said + "BAD", StepRings.BAD, -1);
        Edge.same(said + "NOT", StepRings.NOT, -2);
        Edge.same(said + "FULL", StepRings.FULL, -3);
        Edge.same(said + "NONE", StepRings.NONE, -4);
        Edge.same(said + "NULL", StepRings.NULL, -11);
        Edge.same(said + "CAST", StepRings.CAST, -12);
        Edge.same(said + "INDEX", StepRings.INDEX, -13);
        Edge.same(said + "SIZE", StepRings.SIZE, -14);
        new Edge(34, "BAD -1 (a number is not as told, or names nothing), NOT -2 (as told), FULL -3, NONE -4 (as told), "
            + "CAST -12 (of SHEETS another LANE); what the machine finds: NULL -11, INDEX -13, SIZE -14")
            .after("person(0, 0, 5)", "person(1, 0, 5)", "sheet(0, 1, 1)")
            .refuses("of(2, 0)", -1).refuses("of(0, 5)", -1).refuses("carry(0, 1, 0)", -2).refuses("go(0, 1)", -4)
            .refuses("item(1, 1, 0, 5)", -11).refuses("item(0, 0, 0, 5)", -12).refuses("item(0, 2, 0, 5)", -12)
            .refuses("item(0, 1, 1, 5)", -13).refuses("sheet(1, 1, -1)", -14);
        Edge.full(2, "FULL -3").refuses("way(0, 1, 1, 0)", -3).refuses("person(0, 0, 0)", -3).refuses("errand(0)", -3).refuses("type(32, 1)", -3);
    }

    /** Each call here could be refused for a later reason, too. */
    private static void firstThatACallNames() {
        Edge.busy(15, "Refusals are answers, of several the first that a call names")
            .refuses("far(7, 0, 11)", BAD).refuses("far(0, 12, 11)", BAD).refuses("far(0, 11, 12)", BAD).refuses("far(0, 0, 11)", NONE)
            .refuses("go(7, 11)", BAD).refuses("go(5, 12)", BAD).refuses("go(5, 0)", NONE)
            .refuses("lend(5, 5, 1)", BAD).refuses("lend(5, 7, 1)", BAD).refuses("lend(5, 0, 0)", BAD).refuses("lend(5, 0, 100000)", BAD)
            .refuses("lend(5, 0, 1)", NOT)
            .refuses("pay(5, 5, 1)", BAD).refuses("pay(5, 7, 1)", BAD).refuses("pay(5, 0, 0)", BAD).refuses("pay(5, 0, 1)", NOT);
    }

    private static void firstThatACallNamesWhenFull() {
        Edge.full(2, "of several the first that a call names")
            .refuses("way(-1, 1, 5, 0)", BAD).refuses("way(0, 12, 5, 0)", BAD).refuses("way(0, 0, 5, 0)", BAD).refuses("way(0, 1, 0, 0)", BAD)
            .refuses("way(0, 1, 100, 0)", BAD).refuses("way(0, 1, 5, 10)", BAD).refuses("way(0, 1, 5, -10)", BAD).refuses("way(0, 1, 5, 9)", FULL)
            .refuses("person(12, 0, 5)", BAD).refuses("person(0, 4, 5)", BAD).refuses("person(0, 0, 100000)", BAD).refuses("person(0, 0, -1)", BAD)
            .refuses("person(0, 0, 99999)", FULL)
            .refuses("errand(12)", BAD).refuses("errand(-1)", BAD).refuses("errand(11)", FULL)
            .refuses("type(32, 0)", BAD).refuses("type(32, 9)", BAD).refuses("type(31, 1)", BAD).refuses("type(127, 1)", BAD).refuses("type(32, 1)", FULL);
    }

    private static void firstThatACarryNames() {
        // 0 and 1 are where no way is, with nothing; 2 and 3 where one is, with too little; 4 is alone with enough
        new Edge(16, "of several the first that a call names").town("ab10", 1).people("lg0,lg0,ag19,ag0,bg99", 5)
            .refuses("carry(0, 4, 12)", BAD).refuses("carry(0, 5, 0)", BAD).refuses("carry(0, 0, 0)", BAD).refuses("carry(2, 2, 1)", BAD)
            .refuses("carry(0, 4, 0)", NOT).refuses("carry(4, 0, 11)", NOT).refuses("carry(2, 4, 1)", NOT).refuses("carry(3, 4, 1)", NOT)
            .refuses("carry(0, 1, 0)", NONE).refuses("carry(2, 3, 11)", NONE)
            .refuses("carry(2, 3, 1)", FULL).refuses("carry(3, 2, 1)", FULL);
    }

    private static void firstThatHousesName() {
        Edge.busy(21, "of several the first that a call names")
            .refuses("meet(5, 5, 0)", BAD).refuses("meet(0, 5, 2)", BAD).refuses("meet(0, 7, 0)", BAD).refuses("meet(0, 5, 1)", NONE)
            .refuses("parted(160)", BAD).refuses("parted(32)", NONE)
            .refuses("tour(5, 6)", BAD).refuses("tour(5, -2)", BAD).refuses("tour(7, 0)", BAD).refuses("tour(5, 5)", NONE)
            .refuses("wells(0, 0, -1)", BAD).refuses("wells(1, -1, -1)", BAD).refuses("wells(1, 0, 1)", BAD).refuses("wells(1, 0, 0)", NONE)
            .refuses("stops(12, 12)", BAD).refuses("stops(11, 11)", BAD);
        new Edge(26, "of several the first that a call names")
            .refuses("wells(4, 0, -1)", BAD).refuses("wells(1, 100000, -1)", BAD).refuses("wells(3, 0, 3)", BAD).refuses("wells(3, 0, 2)", NONE);
    }

    private static void machineFindsBehindBad() {
        String said = "(NULL, CAST, INDEX, SIZE in this order, behind BAD)";
        machineFindsInOrder(Edge.busy(31, said), "lies(#)");
        machineFindsInOrder(Edge.busy(34, said), "item(#, 5)");
        machineFindsInOrder(Edge.busy(35, said), "film(#)");
        Edge.busy(32, said).refuses("sheet(4, 1, -1)", BAD).refuses("sheet(-1, 1, -1)", BAD).refuses("sheet(0, 3, -1)", BAD).refuses("sheet(0, -1, -1)", BAD)
            .refuses("sheet(0, 1, -1)", SIZE);
        Edge.busy(33, said).refuses("drop(4)", BAD).refuses("drop(-1)", BAD).refuses("drop(3)", NULL);
    }

    /** Sheet 3 holds nothing, sheet 0 shorts, sheet 1 twenty-four ints. */
    private static void machineFindsInOrder(Edge e, String call) {
        for (String wrong : new String[] {"-1, 0, 0", "4, 0, 0", "3, -1, 0", "3, 3, 0", "0, 3, -1", "4, 3, -1"}) {
            e.refuses(call.replace("#", wrong), BAD);
        }
        for (String nothing : new String[] {"3, 0, 0", "3, 1, -1", "3, 2, 99"}) {
            e.refuses(call.replace("#", nothing), NULL);
        }
        for (String another : new String[] {"0, 1, 0", "0, 2, -1", "0, 1, 99"}) {
            e.refuses(call.replace("#", another), CAST);
        }
        e.refuses(call.replace("#", "1, 1, -1"), INDEX).refuses(call.replace("#", "1, 1, 24"), INDEX);
    }

    private static void hundredThousandLess() {
        Edge e = new Edge(4, "Where a told thing may be below 0, refused ones are 100000 less (-100001 and so on).")
            .after("way(0, 1, 5, -1)", "way(0, 1, 5, -2)", "way(0, 1, 5, -9)")
            .is("told(0, 3)", -1).is("told(1, 3)", -2).is("told(2, 3)", -9);
        for (int what = -1; what <= 5; what++) {
            e.refuses("told(3, " + what + ")", -100001).refuses("told(-1, " + what + ")", -100001);
        }
        e.refuses("told(0, 5)", -100001).refuses("told(0, -1)", -100001);
    }

    private static void refusedWaysAndPeople() {
        Edge.busy(2, "What is refused changes nothing, but as told.")
            .refuses("way(0, 12, 5, 0)", BAD).refuses("way(0, 0, 5, 0)", BAD).refuses("way(0, 1, 100, 0)", BAD).refuses("way(0, 1, 5, 10)", BAD)
            .refuses("gate(8, true)", BAD).refuses("gate(-1, false)", BAD)
            .refuses("told(8, 0)", -100001).refuses("person(12, 0, 5)", BAD).refuses("person(0, 4, 5)", BAD).refuses("person(0, 0, 100000)", BAD)
            .refuses("of(7, 0)", BAD).refuses("costs(0, 8, 0)", BAD).refuses("costs(0, 0, 2)", BAD).refuses("far(0, 0, 12)", BAD).refuses("far(0, 0, 11)", NONE)
            .refuses("given(4, 5)", BAD).refuses("given(0, 10000)", BAD).refuses("given(0, -1)", BAD).refuses("rule(3)", BAD).refuses("rule(-1)", BAD)
            .refuses("type(0, 1)", BAD).refuses("type(24929, 0)", BAD).refuses("type(24864, 9)", BAD).refuses("type(24832, 2)", BAD).refuses("type(97, 2)", BAD)
            .refuses("count(6)", BAD);
    }

    private static void refusedGoing() {
        Edge.busy(15, "What is refused changes nothing, but as told.")
            .refuses("go(7, 0)", BAD).refuses("go(0, 12)", BAD).refuses("go(0, 11)", NONE).refuses("go(6, 1)", NOT)
            .refuses("carry(3, 3, 1)", BAD).refuses("carry(0, 1, 12)", BAD).refuses("carry(0, 2, 0)", NOT).refuses("carry(0, 1, 11)", NONE)
            .refuses("carry(6, 3, 1)", FULL)
            .refuses("lend(0, 0, 5)", BAD).refuses("lend(0, 1, 0)", BAD).refuses("lend(6, 1, 26)", NOT)
            .refuses("pay(1, 1, 5)", BAD).refuses("pay(1, 0, 0)", BAD).refuses("pay(1, 0, 26)", NOT).refuses("pay(0, 1, 1)", NOT)
            .refuses("owes(1, 1)", BAD).refuses("owes(1, 7)", BAD);
    }

    private static void refusedHouses() {
        Edge.busy(21, "What is refused changes nothing, but as told.")
            .refuses("meet(0, 0, 0)", BAD).refuses("meet(0, 1, 2)", BAD).refuses("meet(0, 5, 0)", NONE).refuses("errand(12)", BAD)
            .refuses("parted(0)", BAD).refuses("parted(128)", BAD).refuses("parted(1)", NONE)
            .refuses("tour(7, 0)", BAD).refuses("tour(0, 6)", BAD).refuses("tour(0, 0)", NONE).refuses("tour(0, 4)", NONE)
            .refuses("wells(4, 5, 0)", BAD).refuses("wells(1, 0, 0)", NONE).refuses("hold(0, 0, -1)", BAD).refuses("stops(3, 3)", BAD);
    }

    private static void refusedSheets() {
        Edge.busy(31, "What is refused changes nothing, but as told.")
            .refuses("lies(4, 1, 0)", BAD).refuses("lies(3, 1, 0)", NULL).refuses("lies(1, 0, 0)", CAST).refuses("lies(1, 1, 18)", INDEX)
            .refuses("sheet(0, 0, 25)", BAD).refuses("sheet(4, 0, 5)", BAD).refuses("sheet(0, 3, 5)", BAD).refuses("sheet(0, 1, -1)", SIZE)
            .refuses("sheet(3, 1, -1)", SIZE).refuses("drop(4)", BAD).refuses("drop(3)", NULL)
            .refuses("item(0, 3, 0, 9)", BAD).refuses("item(3, 0, 0, 9)", NULL).refuses("item(0, 1, 0, 9)", CAST).refuses("item(0, 0, 5, 9)", INDEX)
            .refuses("item(0, 0, -1, 9)", INDEX)
            .refuses("film(1, 3, 0)", BAD).refuses("film(3, 1, 0)", NULL).refuses("film(1, 2, 0)", CAST).refuses("film(1, 1, 18)", INDEX)
            .refuses("film(1, 1, -1)", INDEX).refuses("film(0, 0, 0)", INDEX).refuses("film(2, 2, 2)", INDEX);
    }

    private static void refusedWhenFull() {
        Edge.full(2, "What is refused changes nothing, but as told.")
            .refuses("way(2, 3, 5, 0)", FULL).refuses("person(3, 1, 5)", FULL).refuses("errand(3)", FULL).refuses("type(97, 1)", FULL)
            .refuses("type(7016996765293437281, 8)", FULL);
    }

    private static void refusedOfNothing() {
        new Edge(30, "What is refused changes nothing, but as told.").refuses("restore()", NONE).after("person(0, 0, 7)", "way(0, 1, 5, 0)").refuses("restore()", NONE);
    }

    private static void changesAsTold() {
        // a fault empties the tape, and nothing else
        Edge.busy(12, "but as told.").is("people()", 2).is("town()", -20);
        new Edge(12, "but as told.").town("ab5", 1).people("ag5", 1).typed("ab6,x").is("town()", -24).is("type(97, 1)", 1)
            .is("count(0)", 1).is("told(0, 2)", 5).is("of(0, 2)", 5);
        new Edge(13, "but as told.").town("ab5", 1).people("ag5", 1).typed("ag6,x").is("people()", -24).is("type(97, 1)", 1)
            .is("count(1)", 1).is("of(0, 2)", 5).is("told(0, 2)", 5);
    }

    private static void setsAreBits() {
        Edge e = new Edge(24, "Sets are bits.").people("ag1,bg1,cg1,dg1,eg1,fg1,gg1,hg1", 8).after("errand(7)");
        for (int p = 0; p < 7; p++) {
            e.refuses("parted(" + (1 << p) + ")", NONE);
        }
        e.is("parted(128)", 0).is("parted(255)", 0).refuses("parted(127)", NONE).refuses("parted(256)", BAD);
        Edge h = new Edge(27, "Sets are bits.").after("person(0, 0, 0)");
        for (int place = 0; place < 12; place++) {
            h.is("hold(0, " + place + ", 0)", 1 << place);
        }
        Edge l = new Edge(31, "Sets are bits.").people("ag1,bg1,cg1,dg1,eg1,fg1,gg1,hg1", 8).after("sheet(0, 1, 8)").is("lies(0, 1, 0)", 255);
        for (int p = 0; p < 8; p++) {
            l.after("film(0, 1, 0)", "item(0, 1, " + p + ", 0)").is("lies(0, 1, 0)", 1 << p);
        }
    }

    private static void divisionsAreCut() {
        // up one floor: 1 and 99 by 2 are 0 and 49; a postman has half of 4 and 151, and of 3
        new Edge(7, "Divisions are cut.").people("ao1,ap1", 2).after("way(0, 1, 1, 1)", "way(0, 1, 99, 1)", "way(0, 1, 3, 0)")
            .is("costs(0, 0, 0)", 4).is("costs(0, 1, 0)", 151).is("costs(1, 0, 0)", 2).is("costs(1, 1, 0)", 75).is("costs(1, 2, 0)", 1);
        new Edge(20, "Divisions are cut.").people("ag1,ag99999,ag3", 3).after("given(0, 0)", "rule(2)").is("month()", 0)
            .is("of(0, 2)", 0).is("of(1, 2)", 49999).is("of(2, 2)", 1);
    }

    /** Sums that grow with the number of calls stay whole for as many as there may be. */
    private static void asManyCallsAsPromised() {
        Edge e = new Edge(17, "An object is used for at most 512 calls after it has been made;")
            .after("person(0, 0, 99999)", "person(0, 0, 0)", "sheet(0, 1, 2)");
        for (int i = 0; i < 250; i++) {
            e.is("lend(0, 1, 99999)", 0).is("lend(1, 0, 99999)", 0);
        }
        e.is("owes(0, 1)", 250 * 99999).is("owes(1, 0)", 250 * 99999).is("count(4)", 500 * 99999)
            .after("item(0, 1, 0, 99999)").is("lies(0, 1, 0)", 0).after("item(0, 1, 0, 99998)").is("lies(0, 1, 0)", 1)
            .is("month()", 99999 + 99999).is("of(0, 2)", 400);
    }
}
