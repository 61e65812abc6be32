/** Promises 21 to 30, each sentence tried where it ends. */
final class HousesEdgesTest {
    private static final int BAD = Edge.BAD, NOT = Edge.NOT, FULL = Edge.FULL, NONE = Edge.NONE, NULL = Edge.NULL;

    public static void main(String[] args) {
        meetFromWhereTheyAre();
        meetFirstOfLikeOnes();
        meet();
        errands();
        errand();
        rest();
        tourFromNowAndHome();
        tourIsLeast();
        tourFirstAsARow();
        tourOfSix();
        tour();
        partedEachOfOne();
        whoHasNoneStays();
        parted();
        wellsNearest();
        wellsNoneAboveWorst();
        wellsFirstAsARow();
        wellsAtEachRow();
        wellsAtTheEnds();
        wells();
        holdSteps();
        hold();
        waitAtLeast();
        waitBothWays();
        stops();
        imageKeepsAll();
        imageKeepsNeitherSheetsNorTape();
        image();
        restore();
        Edge.end();
    }

    private static void meetFromWhereTheyAre() {
        new Edge(21, "MEET for two: that PLACE by which FAR of both from where they are is least together,").town("ab10,bc10,c+5d10", 3).people("ag99,cg99,dc99,lg0", 4)
            // a child goes twice as dear, so the other one comes
            .is("meet(1, 2, 0)", 2).is("meet(1, 2, 1)", 20).is("meet(2, 1, 0)", 2).is("meet(0, 2, 0)", 2).is("meet(0, 2, 1)", 40)
            // up to d costs 25, down from it 20: down it is
            .after("go(1, 1)").is("meet(0, 1, 0)", 0).is("meet(0, 1, 1)", 10).after("go(0, 1)").is("meet(0, 1, 0)", 1).is("meet(0, 1, 1)", 0)
            // the ring does not matter
            .after("lend(0, 1, 89)").is("of(0, 2)", 0).is("meet(0, 2, 1)", 30).is("meet(0, 2, 0)", 2);
    }

    private static void meetFirstOfLikeOnes() {
        Edge e = new Edge(21, "of like ones the first.").people("lg0,ag0", 2);
        for (int i = 0; i < 11; i++) {
            e.after("way(" + i + ", " + (i + 1) + ", 99, 0)");
        }
        e.is("meet(0, 1, 0)", 0).is("meet(1, 0, 0)", 0).is("meet(0, 1, 1)", 11 * 99);
        new Edge(21, "of like ones the first.").town("kl5", 1).people("lg0,kg0,lg0", 3).is("meet(0, 1, 0)", 10).is("meet(1, 0, 0)", 10).is("meet(0, 2, 0)", 11).is("meet(0, 2, 1)", 0);
        // a place between them, of a lower number, is as good; one aside is not
        new Edge(21, "of like ones the first.").town("ba5,ac5,bd9", 3).people("bg0,cg0", 2).is("meet(0, 1, 0)", 0).is("meet(0, 1, 1)", 10);
        new Edge(21, "of like ones the first.").town("ba5,ac5,bc9", 3).people("bg0,cg0", 2).is("meet(0, 1, 0)", 1).is("meet(0, 1, 1)", 9);
    }

    private static void meet() {
        new Edge(21, "MEET: the PLACE (0), FAR of both together (1). BAD: also one alike; NONE: there is none.").town("ab5", 1).people("ag0,bg0,lg0", 3)
            .takesOnly("meet(#, 1, 0)", 0, 2).takesOnly("meet(1, #, 0)", 0, 2).takesOnly("meet(0, 1, #)", 0, 1).refuses("meet(0, 0, 0)", BAD).refuses("meet(2, 2, 1)", BAD)
            .refuses("meet(0, 2, 0)", NONE).refuses("meet(0, 2, 1)", NONE).refuses("meet(2, 1, 0)", NONE).is("meet(0, 1, 0)", 0).is("meet(0, 1, 1)", 5);
    }

    private static void errands() {
        Edge e = new Edge(22, "ERRANDS 0 .. 5, as they come, are PLACES.").after("person(0, 0, 0)");
        for (int i = 0; i < 6; i++) {
            e.refuses("tour(0, " + i + ")", NONE).is("errand(0)", i).is("count(2)", i + 1).is("tour(0, " + i + ")", i);
        }
        e.refuses("errand(0)", FULL).is("tour(0, -1)", 0);
    }

    private static void errand() {
        new Edge(22, "An ERRAND: its number. BAD; FULL: 6.").is("errand(0)", 0).is("errand(11)", 1).is("errand(0)", 2).is("errand(5)", 3).is("errand(5)", 4).is("errand(5)", 5)
            .refuses("errand(0)", FULL).refuses("errand(11)", FULL).takesOnly("errand(#)", 0, 11).is("count(2)", 6).after("rest()").takesOnly("errand(#)", 0, 11).is("errand(0)", 0);
    }

    private static void rest() {
        new Edge(23, "All ERRANDS go: how many.").is("rest()", 0).is("errand(3)", 0).is("rest()", 1).is("count(2)", 0).is("rest()", 0).after("person(0, 0, 0)")
            .after("errand(3)", "errand(3)", "errand(3)", "errand(3)", "errand(3)", "errand(3)").refuses("tour(0, -1)", NONE).is("rest()", 6).is("tour(0, -1)", 0)
            .is("parted(1)", 0).is("errand(0)", 0).is("tour(0, 0)", 0);
    }

    private static void tourFromNowAndHome() {
        new Edge(25, "TOUR of one for some ERRANDS: from where one is now to all their PLACES, in an order, and HOME:").town("ab10,bc1,b+2d4", 3).people("ag99,dg0", 2)
            // of none: home alone
            .is("tour(0, -1)", 0).after("go(0, 2)").is("tour(0, -1)", 11).refuses("tour(0, 0)", NONE)
            .after("errand(2)").is("tour(0, -1)", 11).is("tour(1, -1)", 4 + 1 + 1 + 10).after("errand(0)").is("tour(0, -1)", 11).is("tour(1, -1)", 5 + 11 + 10 + 10)
            .after("errand(3)").is("tour(0, -1)", 11 + 4 + 10)
            // from c the way home leads over d and b, whatever is nearer to home
            .is("tour(0, 0)", 0).is("tour(0, 1)", 2).is("tour(0, 2)", 1)
            // the ring does not matter, and nobody goes
            .is("of(0, 3)", 2).is("of(1, 3)", 3).is("of(1, 2)", 0)
            // no way leads home, though one is where the errand is
            .after("rest()", "errand(2)").town("bc1", 1).refuses("tour(0, -1)", NONE).refuses("tour(0, 0)", NONE).refuses("tour(1, -1)", NONE);
    }

    private static void tourIsLeast() {
        // both sides of home: the shorter one is gone there and back, and so is the longer one
        new Edge(25, "that order by which COSTS are least,").town("ea4,ab5,bc9", 3).people("ag0", 1).after("errand(4)", "errand(1)", "errand(2)").is("tour(0, -1)", 8 + 28)
            .is("tour(0, 0)", 0).is("tour(0, 1)", 1).is("tour(0, 2)", 2);
        // up is dear: round the one way, not the other
        new Edge(25, "that order by which COSTS are least,").town("a+9b1,b-9c1,ca1", 3).people("ag0", 1).after("errand(1)", "errand(2)").is("tour(0, -1)", 1 + 1 + 27 + 1 + 0)
            .is("tour(0, 0)", 0).is("tour(0, 1)", 1);
        new Edge(25, "that order by which COSTS are least,").town("ab5,b+1c5,c-1a5", 3).people("ag0", 1).after("errand(1)", "errand(2)").is("tour(0, -1)", 18).is("tour(0, 0)", 0);
        new Edge(25, "that order by which COSTS are least,").town("ab5,b+1c5,ca9", 3).people("ag0", 1).after("errand(2)", "errand(1)").is("tour(0, -1)", 19).is("tour(0, 0)", 0)
            .is("tour(0, 1)", 1);
    }

    private static void tourFirstAsARow() {
        String said = "of like ones the first as a row.";
        // all at one place
        Edge same = new Edge(25, said).town("ab5", 1).people("ag0", 1).after("errand(1)", "errand(1)", "errand(1)", "errand(1)", "errand(1)", "errand(1)").is("tour(0, -1)", 10);
        for (int i = 0; i < 6; i++) {
            same.is("tour(0, " + i + ")", i);
        }
        // to the left and to the right, in the order in which they were told
        new Edge(25, said).town("ab5,ac5", 2).people("ag0", 1).after("errand(2)", "errand(1)").is("tour(0, 0)", 0).is("tour(0, 1)", 1);
        new Edge(25, said).town("ab5,ac5", 2).people("ag0", 1).after("errand(1)", "errand(2)").is("tour(0, 0)", 0).is("tour(0, 1)", 1);
        // there and back along a row of places: what is passed twice is done in the first row's turn
        new Edge(25, said).town("ab1,bc1,cd1", 3).people("ag0", 1).after("errand(3)", "errand(2)", "errand(1)").is("tour(0, -1)", 6)
            .is("tour(0, 0)", 0).is("tour(0, 1)", 1).is("tour(0, 2)", 2);
        new Edge(25, said).town("ab1,bc1,cd1", 3).people("ag0", 1).after("errand(2)", "errand(3)", "errand(1)").is("tour(0, -1)", 6)
            .is("tour(0, 0)", 0).is("tour(0, 1)", 1).is("tour(0, 2)", 2);
        // round a ring of four both ways cost the same: by b first, since that errand has the lower number
        new Edge(25, said).town("ab5,bc5,cd5,da5", 4).people("ag0", 1).after("errand(3)", "errand(2)", "errand(1)").is("tour(0, -1)", 20)
            .is("tour(0, 0)", 0).is("tour(0, 1)", 1).is("tour(0, 2)", 2);
        new Edge(25, said).town("ab5,bc5,cd5,da5", 4).people("ag0", 1).after("errand(2)", "errand(3)", "errand(1)").is("tour(0, 0)", 1).is("tour(0, 1)", 0).is("tour(0, 2)", 2);
        // b, and from there c, not d, though d is as near to home as b is
        new Edge(25, said).town("ab5,bc5,cd5,da5", 4).people("ag0", 1).after("errand(1)", "errand(3)", "errand(2)").is("tour(0, 0)", 0).is("tour(0, 1)", 2).is("tour(0, 2)", 1);
        // from home either order costs the same, from where one is now only one of them is least
        new Edge(25, said).town("ab1,bc1,cd1", 3).people("ag9", 1).after("errand(1)", "errand(2)").is("tour(0, 0)", 0).is("tour(0, 1)", 1).after("go(0, 3)").is("tour(0, -1)", 3)
            .is("tour(0, 0)", 1).is("tour(0, 1)", 0);
    }

    private static void tourOfSix() {
        // six places round with home, told in disorder: down from f and g, since the other way round is up there
        new Edge(25, "the i-th ERRAND (0 .. 5).").town("ab9,bc9,cd9,de9,ef9,f-9g9,g-9a9", 7).people("ag0", 1)
            .after("errand(4)", "errand(6)", "errand(1)", "errand(5)", "errand(2)", "errand(3)")
            .is("tour(0, -1)", 7 * 9).is("tour(0, 0)", 2).is("tour(0, 1)", 4).is("tour(0, 2)", 5).is("tour(0, 3)", 0).is("tour(0, 4)", 3).is("tour(0, 5)", 1);
    }

    private static void tour() {
        new Edge(25, "TOUR of one for all ERRANDS: COSTS (-1), the i-th ERRAND (0 .. 5). BAD; NONE: there is no way, no i-th.").town("ab5", 1).people("ag0,lg0", 2)
            .takesOnly("tour(#, -1)", 0, 1).refuses("tour(8, -1)", BAD).takesOnly("tour(0, #)", -1, 5).is("tour(0, -1)", 0).is("tour(1, -1)", 0)
            .refusesEach("tour(0, #)", NONE, 0, 1, 2, 3, 4, 5).after("errand(1)").is("tour(0, -1)", 10).is("tour(0, 0)", 0).refusesEach("tour(0, #)", NONE, 1, 2, 3, 4, 5)
            .refusesEach("tour(1, #)", NONE, -1, 0, 5).after("errand(2)").refusesEach("tour(0, #)", NONE, -1, 0, 1, 2).takesOnly("tour(0, #)", -1, 5);
    }

    private static void partedEachOfOne() {
        new Edge(24, "PARTED among a set of PEOPLE: each ERRAND is of one of these, each goes a TOUR for those that are his").town("ab10,bc10,cd10,de10", 4)
            .people("ag0,eg0,ac0,cg0,lg0", 5).after("errand(1)", "errand(3)").is("parted(1)", 60).is("parted(2)", 60).is("parted(3)", 40).is("parted(4)", 120)
            // who lives between does both, or one of them
            .is("parted(8)", 40).is("parted(11)", 40).is("parted(6)", 20 + 40).is("parted(31)", 40).refuses("parted(16)", NONE)
            // six errands of one place are as one
            .after("errand(3)", "errand(3)", "errand(3)", "errand(3)").is("parted(3)", 40).is("parted(1)", 60);
        // each of six lives where one of the errands is
        Edge e = new Edge(24, "each ERRAND is of one of these,");
        for (int i = 0; i < 6; i++) {
            e.after("person(" + i + ", 0, 0)", "errand(" + i + ")");
        }
        e.is("parted(63)", 0);
        for (int i = 0; i < 6; i++) {
            e.refuses("parted(" + (63 & ~(1 << i)) + ")", NONE);
        }
    }

    private static void whoHasNoneStays() {
        new Edge(24, "(who has none stays): the least COSTS of all together.").town("ab10,bc3", 2).people("ag99,bg0", 2).after("go(0, 2)")
            // who is away does not go home for nothing
            .is("tour(0, -1)", 13).is("parted(1)", 0).is("parted(3)", 0).after("errand(1)").is("parted(1)", 13).is("parted(2)", 0).is("parted(3)", 0)
            .after("errand(2)").is("parted(3)", 6).is("parted(1)", 13).is("parted(2)", 6)
            // who can't go home stays, and the other one does all
            .town("bc3", 1).is("parted(3)", 6).refuses("parted(1)", NONE);
    }

    private static void parted() {
        Edge e = new Edge(24, "PARTED among a set of PEOPLE: COSTS. BAD: also the empty set; NONE: it can't be.").refuses("parted(0)", BAD).refuses("parted(1)", BAD);
        for (int n = 1; n <= 8; n++) {
            e.is("person(" + n + ", 0, 5)", n - 1).is("parted(" + ((1 << n) - 1) + ")", 0).is("parted(" + (1 << n - 1) + ")", 0)
                .takesOnly("parted(#)", 1, (1 << n) - 1).refuses("parted(" + (1 << n | 1) + ")", BAD);
        }
        e.refuses("parted(-2147483647)", BAD).refuses("parted(-255)", BAD).refuses("parted(65537)", BAD).after("errand(0)").refuses("parted(255)", NONE).refuses("parted(1)", NONE)
            .after("way(0, 8, 7, 0)").is("parted(255)", 14).is("parted(128)", 14).refuses("parted(127)", NONE);
    }

    private static void wellsNearest() {
        new Edge(26, "WELLS: k PLACES (1 .. 3) by which COSTS from each one's HOME to the nearest of these are least together,").town("ab10,bc10,cd10,d+3e10", 4)
            .people("ag99,bg0,cg0,dg0,eg0", 5).is("wells(1, 99999, -1)", 10 + 10 + 20 + 20).is("wells(1, 99999, 0)", 2)
            .is("wells(2, 99999, -1)", 30).is("wells(2, 99999, 0)", 0).is("wells(2, 99999, 1)", 3)
            .is("wells(3, 99999, -1)", 20).is("wells(3, 99999, 0)", 0).is("wells(3, 99999, 1)", 1).is("wells(3, 99999, 2)", 3)
            // home counts, not where one is; a child's steps count as they cost it
            .after("go(0, 3)").is("wells(1, 99999, -1)", 60).after("person(4, 1, 0)", "person(4, 1, 0)").is("wells(1, 99999, -1)", 10 + 20 + 30 + 10 + 2 * 20)
            .is("wells(1, 99999, 0)", 3);
    }

    private static void wellsNoneAboveWorst() {
        new Edge(26, "and none is above a told WORST;").town("ab10,bc30", 2).people("ag0,ag0,ag0,cg0", 4)
            .is("wells(1, 99999, -1)", 40).is("wells(1, 99999, 0)", 0).is("wells(1, 40, -1)", 40).is("wells(1, 40, 0)", 0)
            .is("wells(1, 39, -1)", 60).is("wells(1, 39, 0)", 1).is("wells(1, 30, -1)", 60).is("wells(1, 30, 0)", 1).refuses("wells(1, 29, -1)", NONE).refuses("wells(1, 29, 0)", NONE)
            .is("wells(2, 0, -1)", 0).is("wells(2, 0, 0)", 0).is("wells(2, 0, 1)", 2).refuses("wells(1, 0, -1)", NONE);
    }

    private static void wellsFirstAsARow() {
        String said = "of like ones the first as a row.";
        new Edge(26, said).people("lg0", 1).is("wells(1, 0, 0)", 11).is("wells(2, 0, 0)", 0).is("wells(2, 0, 1)", 11).is("wells(3, 0, 0)", 0).is("wells(3, 0, 1)", 1)
            .is("wells(3, 0, 2)", 11).is("wells(3, 0, -1)", 0);
        new Edge(26, said).people("ag0", 1).is("wells(1, 0, 0)", 0).is("wells(2, 0, 0)", 0).is("wells(2, 0, 1)", 1).is("wells(3, 0, 0)", 0).is("wells(3, 0, 1)", 1).is("wells(3, 0, 2)", 2);
        new Edge(26, said).town("ab5", 1).people("ag0,bg0", 2).is("wells(1, 99999, 0)", 0).is("wells(1, 99999, -1)", 5);
        new Edge(26, said).town("ba5,bc5,bd5", 3).people("ag0,cg0,dg0,bg0", 4).is("wells(1, 99999, 0)", 1).is("wells(2, 99999, 0)", 0).is("wells(2, 99999, 1)", 1)
            .is("wells(2, 99999, -1)", 10).is("wells(3, 99999, 0)", 0).is("wells(3, 99999, 1)", 1).is("wells(3, 99999, 2)", 2).is("wells(3, 99999, -1)", 5);
    }

    /** Each row of places is looked at: people live apart at just such a row. */
    private static void wellsAtEachRow() {
        for (int a = 0; a < 12; a++) {
            for (int b = a + 1; b < 12; b++) {
                new Edge(26, "the i-th PLACE (0 .. k - 1).").after("person(" + b + ", 0, 0)", "person(" + a + ", 0, 0)").is("wells(2, 0, -1)", 0).is("wells(2, 0, 0)", a).is("wells(2, 0, 1)", b);
                for (int c = b + 1; c < 12; c++) {
                    new Edge(26, "the i-th PLACE (0 .. k - 1).").after("person(" + b + ", 0, 0)", "person(" + c + ", 0, 0)", "person(" + a + ", 0, 0)").is("wells(3, 0, -1)", 0)
                        .is("wells(3, 0, 0)", a).is("wells(3, 0, 1)", b).is("wells(3, 0, 2)", c);
                }
            }
            new Edge(26, "the i-th PLACE (0 .. k - 1).").after("person(" + a + ", 0, 0)").is("wells(1, 0, -1)", 0).is("wells(1, 0, 0)", a);
        }
    }

    private static void wellsAtTheEnds() {
        // the last row of places that there is, and one apart for each
        new Edge(26, "k PLACES (1 .. 3)").people("jg0,kg0,lg0", 3).refuses("wells(1, 99999, -1)", NONE).refuses("wells(2, 99999, -1)", NONE).is("wells(3, 0, -1)", 0)
            .is("wells(3, 0, 0)", 9).is("wells(3, 0, 1)", 10).is("wells(3, 0, 2)", 11).after("person(0, 0, 0)").refuses("wells(3, 99999, -1)", NONE).refuses("wells(3, 99999, 2)", NONE);
        new Edge(26, "k PLACES (1 .. 3)").people("kg0,lg0", 2).refuses("wells(1, 99999, 0)", NONE).is("wells(2, 0, 0)", 10).is("wells(2, 0, 1)", 11).is("wells(3, 0, 0)", 0)
            .is("wells(3, 0, 1)", 10).is("wells(3, 0, 2)", 11);
        // as many as live as far as they can
        Edge e = new Edge(26, "least together,");
        for (int i = 0; i < 11; i++) {
            e.after("way(" + i + ", " + (i + 1) + ", 99, 9)");
        }
        e.people("ac0,ac0,ac0,ac0,lc0,lc0,lc0,lc0", 8).is("wells(1, 99999, -1)", 4 * 2178).is("wells(1, 2178, -1)", 4 * 2178).is("wells(1, 2178, 0)", 0)
            .is("wells(1, 2177, -1)", 4 * (252 + 1980)).is("wells(1, 2177, 0)", 1).is("wells(2, 0, -1)", 0).is("wells(2, 0, 1)", 11);
    }

    private static void wells() {
        new Edge(26, "WELLS: COSTS (-1), the i-th PLACE (0 .. k - 1). BAD (worst 0 .. 99999); NONE: there are none (also without PEOPLE).")
            .refuses("wells(1, 0, -1)", NONE).refuses("wells(3, 99999, 2)", NONE).refuses("wells(1, 0, 1)", BAD).people("ag0,bg0", 2)
            .takesOnly("wells(#, 5, -1)", 1, 3).takesOnly("wells(1, #, -1)", 0, 99999).takesOnly("wells(1, 5, #)", -1, 0).takesOnly("wells(2, 5, #)", -1, 1)
            .takesOnly("wells(3, 5, #)", -1, 2).refuses("wells(1, 99999, -1)", NONE).refuses("wells(1, 99999, 0)", NONE).is("wells(2, 0, -1)", 0).is("wells(2, 99999, 1)", 1)
            .is("wells(3, 0, 2)", 2);
    }

    private static void holdSteps() {
        new Edge(27, "HOLD: where one can be who had so many steps in the RING, when seen at a PLACE: a set of PLACES.").town("a+1b10,bc5,kl9", 3).people("ag0,ac0,ap0", 3)
            .is("hold(0, 0, 0)", 1).is("hold(0, 0, 12)", 1).is("hold(0, 0, 13)", 3).is("hold(0, 0, 17)", 3).is("hold(0, 0, 18)", 7).is("hold(0, 0, 99999)", 7)
            .is("hold(0, 2, 4)", 4).is("hold(0, 2, 5)", 6).is("hold(0, 2, 14)", 6).is("hold(0, 2, 15)", 7).is("hold(1, 2, 29)", 6).is("hold(1, 2, 30)", 7)
            .is("hold(2, 0, 8)", 1).is("hold(2, 0, 9)", 3).is("hold(2, 0, 11)", 7)
            // the ring that one has, and where one is, do not matter
            .is("hold(0, 10, 8)", 1 << 10).is("hold(0, 10, 9)", 3 << 10).is("hold(0, 11, 99999)", 3 << 10).is("hold(0, 5, 99999)", 1 << 5);
        Edge e = new Edge(27, "HOLD: where one can be who had so many steps in the RING,");
        for (int i = 0; i < 11; i++) {
            e.after("way(" + i + ", " + (i + 1) + ", 99, 9)");
        }
        e.after("person(0, 1, 0)").is("hold(0, 0, 2772)", 4095).is("hold(0, 0, 2771)", 2047).is("hold(0, 11, 2178)", 4095).is("hold(0, 11, 2177)", 4094).is("hold(0, 0, 99999)", 4095);
    }

    private static void hold() {
        new Edge(27, "HOLD of one with so many steps (0 .. 99999), seen at a PLACE: the set. BAD.").people("ag5,bg5", 2).is("hold(0, 3, 0)", 8).is("hold(1, 3, 99999)", 8)
            .takesOnly("hold(#, 0, 5)", 0, 1).refuses("hold(8, 0, 5)", BAD).takesOnly("hold(0, #, 5)", 0, 11).takesOnly("hold(0, 0, #)", 0, 99999);
    }

    private static void waitAtLeast() {
        String said = "WAIT: how many WAYS must be stopped at least (both ways each),";
        new Edge(28, said).is("stops(0, 1)", 0).after("way(0, 1, 5, 0)").is("stops(0, 1)", 1).is("stops(1, 0)", 1).is("stops(0, 2)", 0).after("way(1, 2, 5, 9)", "way(2, 1, 5, 0)")
            .is("stops(0, 2)", 1).is("stops(1, 2)", 2).is("stops(2, 0)", 1).after("way(0, 2, 99, 0)").is("stops(0, 2)", 2).is("stops(1, 2)", 3);
        // as many as there may be
        Edge e = new Edge(28, said);
        for (int i = 0; i < 24; i++) {
            e.after("way(" + (i % 2) + ", " + ((i + 1) % 2) + ", 1, 0)").is("stops(0, 1)", i + 1);
        }
        // two of eight, then eight of eight, then two: the narrow part tells
        new Edge(28, said).town("ab1,ab1,bc1,bc1,bc1,bc1,cl1,cl1,cl1", 9).is("stops(0, 11)", 2).is("stops(1, 11)", 3).is("stops(2, 0)", 2).is("stops(1, 2)", 4);
        // all twelve in a ring
        Edge ring = new Edge(28, said);
        for (int i = 0; i < 12; i++) {
            ring.after("way(" + i + ", " + ((i + 1) % 12) + ", 1, 0)");
        }
        ring.is("stops(0, 11)", 2).is("stops(0, 6)", 2).is("stops(11, 10)", 2);
    }

    private static void waitBothWays() {
        // a row of ways that was found first takes the middle way the one way, the next gives it back
        new Edge(28, "(both ways each), so that nobody can come from a PLACE to another one.").town("bc1,ab1,cd1,ac1,bd1", 5).is("stops(0, 3)", 2).is("stops(3, 0)", 2).is("stops(1, 2)", 3);
        new Edge(28, "(both ways each), so that nobody can come from a PLACE to another one.").town("cb1,ab1,cd1,ac1,bd1", 5).is("stops(0, 3)", 2).is("stops(3, 0)", 2).is("stops(2, 1)", 3);
        // a way that is given back is free again, both ways
        new Edge(28, "(both ways each), so that nobody can come from a PLACE to another one.").town("ba1,cb1,cd1,bd1,bd1,ca1,ac1", 7).is("stops(0, 3)", 3).is("stops(3, 0)", 3);
        // a slope or a gate stops nobody
        new Edge(28, "so that nobody can come from a PLACE to another one.").town("a+9b99g,a-9b99", 2).is("stops(0, 1)", 2).is("stops(1, 0)", 2);
    }

    private static void stops() {
        Edge e = new Edge(28, "WAIT. BAD: also like PLACES.").takesOnly("stops(#, 0)", 0, 11).takesOnly("stops(0, #)", 0, 11).is("stops(0, 11)", 0).is("stops(11, 0)", 0);
        for (int place = 0; place < 12; place++) {
            e.refuses("stops(" + place + ", " + place + ")", BAD);
        }
        e.town("ab1", 1).refuses("stops(0, 0)", BAD).is("stops(0, 1)", 1);
    }

    private static void imageKeepsAll() {
        Edge e = new Edge(29, "All but SHEETS, THE TAPE is kept as an IMAGE: 1.").town("ab10g,bc5", 2).people("ag60,cp70", 2)
            .after("errand(1)", "errand(2)", "given(0, 1)", "given(1, 2)", "given(2, 3)", "given(3, 4)", "rule(2)", "lend(0, 1, 20)", "pay(1, 0, 5)", "go(0, 1)").is("image()", 1)
            .town("ef1", 1).people("ec9,ec9,ec9", 3).after("rest()", "errand(5)", "given(0, 9)", "given(1, 9)", "given(2, 9)", "given(3, 9)", "rule(1)", "lend(0, 1, 1)", "go(2, 5)", "month()")
            .is("restore()", 1).is("count(0)", 2).is("count(1)", 2).is("count(2)", 2).is("count(3)", 120).is("count(4)", 15).is("count(5)", 10)
            .is("told(0, 0)", 0).is("told(0, 1)", 1).is("told(0, 2)", 10).is("told(0, 4)", 1).is("told(1, 1)", 2).is("told(1, 2)", 5).is("told(1, 4)", 0).is("far(0, 0, 2)", 15)
            .refuses("far(0, 4, 5)", NONE).is("of(0, 0)", 0).is("of(0, 1)", 0).is("of(0, 2)", 35).is("of(0, 3)", 1).is("of(0, 4)", 10).is("of(1, 1)", 3).is("of(1, 2)", 85)
            .is("owes(1, 0)", 15).is("owes(0, 1)", 0).is("tour(0, 0)", 0).is("tour(0, 1)", 1).is("tour(0, -1)", 20).refuses("tour(0, 2)", NONE);
        // what came and went since the month's end is kept, too
        e.after("sheet(0, 1, 2)", "item(0, 1, 0, 60)", "item(0, 1, 1, 70)").is("lies(0, 1, 0)", 0).after("item(0, 1, 0, 59)", "item(0, 1, 1, 69)").is("lies(0, 1, 0)", 3)
            .is("given(0, 1)", 1).is("given(1, 2)", 2).is("given(2, 3)", 3).is("given(3, 4)", 4).is("rule(2)", 2)
            .is("month()", 15).is("of(0, 2)", 26).is("of(1, 2)", 39);
    }

    private static void imageKeepsNeitherSheetsNorTape() {
        new Edge(29, "All but SHEETS, THE TAPE is kept as an IMAGE: 1.").people("ag5", 1).after("sheet(0, 1, 2)", "item(0, 1, 0, 5)", "sheet(1, 2, 3)").typed("ab").after("image()")
            .after("item(0, 1, 0, 4)", "drop(1)", "sheet(2, 0, 7)").typed("9,cd8").is("restore()", 1)
            .is("lies(0, 1, 0)", 1).refuses("drop(1)", NULL).is("drop(2)", 7).is("town()", 2).is("told(0, 2)", 9).is("told(1, 2)", 8);
    }

    private static void image() {
        // the later one stands in place of the earlier one; an image is not changed by what comes then
        new Edge(29, "is kept as an IMAGE: 1.").is("image()", 1).is("person(0, 0, 5)", 0).is("image()", 1).is("person(0, 0, 6)", 1).is("restore()", 1).is("count(1)", 1)
            .is("person(1, 1, 7)", 1).after("way(0, 1, 5, 0)").is("restore()", 1).is("count(1)", 1).is("count(0)", 0).is("of(0, 2)", 5);
        // as much of all as there may be
        Edge.full(29, "is kept as an IMAGE: 1.").is("image()", 1).is("people()", 2).town("ab5", 1).is("rest()", 6).is("restore()", 1).is("count(0)", 24).is("count(1)", 8).is("count(2)", 6)
            .is("of(7, 2)", 13).is("of(7, 3)", 1).is("owes(7, 0)", 5).refuses("way(0, 1, 1, 0)", FULL).refuses("person(0, 0, 0)", FULL).refuses("errand(0)", FULL);
    }

    private static void restore() {
        new Edge(30, "All is as it was then: 1. NONE: there is none.").refuses("restore()", NONE).after("person(0, 0, 5)", "way(0, 1, 5, 0)", "go(0, 1)", "errand(0)").refuses("restore()", NONE)
            .is("image()", 1).is("restore()", 1).is("of(0, 3)", 1).refuses("go(0, 0)", NOT).is("restore()", 1).is("restore()", 1).is("count(1)", 1);
        // an image of nothing is one
        new Edge(30, "All is as it was then: 1.").is("image()", 1).town("ab5", 1).people("ag9,bg9", 2).after("errand(0)", "given(0, 7)", "rule(1)", "go(0, 1)", "lend(0, 1, 1)").is("restore()", 1)
            .is("count(0)", 0).is("count(1)", 0).is("count(2)", 0).is("count(3)", 0).is("count(4)", 0).is("count(5)", 0).is("given(0, 400)", 400).is("rule(0)", 0).is("stops(0, 1)", 0)
            .is("person(0, 0, 5)", 0).is("person(0, 0, 5)", 1).is("owes(1, 0)", 0).is("of(0, 4)", 0).is("month()", 0);
    }
}
