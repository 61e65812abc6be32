/** Promises 1 to 10 and 14, each sentence tried where it ends. */
final class WaysPeopleEdgesTest {
    private static final int BAD = Edge.BAD, NOT = Edge.NOT, FULL = Edge.FULL, NONE = Edge.NONE, NULL = Edge.NULL, TOLD_BAD = -100001;

    public static void main(String[] args) {
        aNewObject();
        placesOfWays();
        placesOfPeople();
        placesOfHouses();
        ways();
        wayIsFullAt24();
        unlikePlaces();
        lengths();
        slopes();
        gateOrNone();
        gates();
        told();
        peopleAsTheyCome();
        personIsFullAt8();
        homeStays();
        rings();
        kinds();
        of();
        costsUpAndDown();
        costsOfGrown();
        costsOfChild();
        costsOfOld();
        costsOfPostman();
        costs();
        farOfTheSame();
        farIsLeast();
        farOfKindsInAnyOrder();
        far();
        given();
        rule();
        count();
        spentAtMost();
        Edge.end();
    }

    private static void aNewObject() {
        Edge e = new Edge(1, "No ways, nobody.");
        for (int what = 0; what <= 5; what++) {
            e.is("count(" + what + ")", 0);
        }
        e.refuses("told(0, 0)", TOLD_BAD).refuses("gate(0, true)", BAD).refuses("of(0, 0)", BAD).refuses("costs(0, 0, 0)", BAD).refuses("far(0, 0, 0)", BAD)
            .refuses("go(0, 0)", BAD).refuses("carry(0, 1, 0)", BAD).refuses("lend(0, 1, 1)", BAD).refuses("pay(0, 1, 1)", BAD).refuses("owes(0, 1)", BAD)
            .refuses("meet(0, 1, 0)", BAD).refuses("parted(1)", BAD).refuses("tour(0, -1)", BAD).refuses("wells(1, 99999, -1)", NONE)
            .refuses("hold(0, 0, 0)", BAD).refuses("restore()", NONE).is("stops(0, 11)", 0).is("month()", 0).is("rest()", 0)
            .is("town()", -20).is("people()", -20).is("given(0, 400)", 400).is("rule(0)", 0);
        for (int sheet = 0; sheet < 4; sheet++) {
            e.refuses("drop(" + sheet + ")", NULL);
        }
        e.is("way(0, 1, 5, 0)", 0).is("person(0, 0, 5)", 0).is("errand(0)", 0);
        new Edge(1, "No ways, nobody.").is("count(0)", 0).is("count(1)", 0).is("count(2)", 0);
    }

    private static void placesOfWays() {
        new Edge(2, "PLACES are 0 .. 11.").is("way(0, 11, 5, 0)", 0).is("way(11, 0, 5, 0)", 1)
            .takesOnly("way(#, 1, 5, 0)", 0, 11).takesOnly("way(1, #, 5, 0)", 0, 11)
            .is("told(0, 0)", 0).is("told(0, 1)", 11).is("told(1, 0)", 11).is("told(1, 1)", 0)
            .is("stops(0, 11)", 2).is("stops(11, 0)", 2).takesOnly("stops(#, 1)", 0, 11).takesOnly("stops(1, #)", 0, 11);
    }

    private static void placesOfPeople() {
        new Edge(5, "PLACES are 0 .. 11.").is("person(0, 0, 50)", 0).is("person(11, 0, 50)", 1).takesOnly("person(#, 0, 5)", 0, 11)
            .after("way(0, 11, 5, 0)").is("of(0, 3)", 0).is("of(1, 3)", 11)
            .is("far(0, 0, 11)", 5).is("far(0, 11, 0)", 5).takesOnly("far(0, #, 0)", 0, 11).takesOnly("far(0, 0, #)", 0, 11)
            .is("go(0, 11)", 45).takesOnly("go(0, #)", 0, 11).is("carry(0, 1, 0)", 35).is("carry(0, 1, 11)", 25).takesOnly("carry(0, 1, #)", 0, 11);
    }

    private static void placesOfHouses() {
        new Edge(22, "PLACES are 0 .. 11.").after("person(0, 0, 50)").is("errand(0)", 0).is("errand(11)", 1).takesOnly("errand(#)", 0, 11)
            .is("hold(0, 0, 0)", 1).is("hold(0, 11, 0)", 1 << 11).takesOnly("hold(0, #, 5)", 0, 11);
    }

    private static void ways() {
        Edge e = new Edge(2, "WAYS 0 .. 23, as they come,").after("person(0, 0, 5)");
        for (int i = 0; i < 24; i++) {
            e.refuses("told(" + i + ", 0)", TOLD_BAD).refuses("gate(" + i + ", true)", BAD).refuses("costs(0, " + i + ", 0)", BAD)
                .is("way(" + (i % 12) + ", " + ((i + 5) % 12) + ", " + (i + 1) + ", 0)", i).is("count(0)", i + 1);
        }
        for (int i = 0; i < 24; i++) {
            e.is("told(" + i + ", 0)", i % 12).is("told(" + i + ", 1)", (i + 5) % 12).is("told(" + i + ", 2)", i + 1).is("costs(0, " + i + ", 0)", i + 1);
        }
    }

    private static void wayIsFullAt24() {
        Edge e = new Edge(2, "A WAY: its number. BAD; FULL: 24.");
        for (int i = 0; i < 23; i++) {
            e.after("way(0, 1, 5, 0)");
        }
        e.is("way(10, 11, 99, 9)", 23).refuses("way(0, 1, 5, 0)", FULL).refuses("way(0, 1, 5, 0)", FULL).refuses("way(0, 1, 0, 0)", BAD)
            .is("count(0)", 24).town("ab5", 1).is("way(0, 1, 5, 0)", 1);
    }

    private static void unlikePlaces() {
        Edge e = new Edge(2, "are between two unlike PLACES (more than one may be),");
        for (int place = 0; place < 12; place++) {
            e.refuses("way(" + place + ", " + place + ", 5, 0)", BAD);
        }
        e.is("way(0, 1, 5, 0)", 0).is("way(0, 1, 5, 0)", 1).is("way(1, 0, 5, 0)", 2).is("count(0)", 3).is("stops(0, 1)", 3);
    }

    private static void lengths() {
        new Edge(2, "have a LENGTH (1 .. 99 steps),").is("way(0, 1, 1, 0)", 0).is("way(0, 1, 99, 0)", 1).is("told(0, 2)", 1).is("told(1, 2)", 99)
            .takesOnly("way(0, 1, #, 0)", 1, 99).refuses("way(0, 1, -1, 0)", BAD);
    }

    private static void slopes() {
        new Edge(2, "a SLOPE (-9 .. 9: the floors by which the second PLACE is above the first),").after("person(0, 0, 5)")
            .is("way(0, 1, 5, -9)", 0).is("way(0, 1, 5, 9)", 1).is("way(0, 1, 5, 0)", 2).is("told(0, 3)", -9).is("told(1, 3)", 9).is("told(2, 3)", 0)
            .takesOnly("way(0, 1, 5, #)", -9, 9)
            // up is from the first place where the second is above it
            .is("costs(0, 1, 0)", 32).is("costs(0, 1, 1)", 5).is("costs(0, 0, 0)", 5).is("costs(0, 0, 1)", 32);
    }

    private static void gateOrNone() {
        new Edge(2, "a GATE or none.").after("way(0, 1, 5, 0)").is("told(0, 4)", 0).after("gate(0, true)").is("told(0, 4)", 1)
            .after("way(0, 1, 5, 0)").is("told(1, 4)", 0).is("told(0, 4)", 1);
    }

    private static void gates() {
        new Edge(3, "A GATE is put on a WAY, or taken away: whether one was there (1, 0). BAD.").after("way(0, 1, 5, 0)", "way(0, 1, 6, 0)")
            .is("gate(1, false)", 0).is("told(1, 4)", 0).is("gate(1, true)", 0).is("told(1, 4)", 1).is("gate(1, true)", 1).is("told(1, 4)", 1)
            .is("told(0, 4)", 0).is("gate(1, false)", 1).is("told(1, 4)", 0).is("gate(0, true)", 0).is("told(1, 4)", 0)
            .takesOnly("gate(#, true)", 0, 1).takesOnly("gate(#, false)", 0, 1).refuses("gate(23, true)", BAD).refuses("gate(24, true)", BAD);
    }

    private static void told() {
        Edge e = new Edge(4, "Of a WAY: 0, 1 its PLACES, 2 LENGTH, 3 SLOPE (BAD less 100000), 4 a GATE (1, 0). BAD less 100000.")
            .after("way(11, 3, 98, -8)", "way(2, 10, 7, 6)", "gate(1, true)")
            .is("told(0, 0)", 11).is("told(0, 1)", 3).is("told(0, 2)", 98).is("told(0, 3)", -8).is("told(0, 4)", 0)
            .is("told(1, 0)", 2).is("told(1, 1)", 10).is("told(1, 2)", 7).is("told(1, 3)", 6).is("told(1, 4)", 1);
        for (int n : new int[] {-1, 2, 23, 24, Integer.MIN_VALUE, Integer.MAX_VALUE}) {
            for (int what = 0; what < 5; what++) {
                e.refuses("told(" + n + ", " + what + ")", TOLD_BAD);
            }
        }
        e.refusesEach("told(0, #)", TOLD_BAD, -1, 5, Integer.MIN_VALUE, Integer.MAX_VALUE);
    }

    private static void peopleAsTheyCome() {
        Edge e = new Edge(5, "PEOPLE 0 .. 7, as they come,").after("way(0, 1, 1, 0)");
        for (int p = 0; p < 8; p++) {
            e.refuses("of(" + p + ", 0)", BAD).refuses("costs(" + p + ", 0, 0)", BAD).refuses("far(" + p + ", 0, 0)", BAD).refuses("go(" + p + ", 0)", BAD)
                .refuses("hold(" + p + ", 0, 0)", BAD).refuses("tour(" + p + ", -1)", BAD).refuses("parted(" + (1 << p) + ")", BAD)
                .is("person(" + (11 - p) + ", " + (p % 4) + ", " + (1000 + p) + ")", p).is("count(1)", p + 1);
        }
        for (int p = 0; p < 8; p++) {
            e.is("of(" + p + ", 0)", 11 - p).is("of(" + p + ", 1)", p % 4).is("of(" + p + ", 2)", 1000 + p);
        }
    }

    private static void personIsFullAt8() {
        new Edge(5, "One of PEOPLE: the number. BAD; FULL: 8.").people("ag1,ag1,ag1,ag1,ag1,ag1,ag1", 7)
            .is("person(11, 3, 99999)", 7).refuses("person(0, 0, 5)", FULL).refuses("person(0, 0, 5)", FULL).refuses("person(0, 0, 100000)", BAD)
            .is("count(1)", 8).is("of(7, 2)", 99999).refuses("of(8, 2)", BAD).people("ag1", 1).is("person(0, 0, 5)", 1);
    }

    private static void homeStays() {
        new Edge(6, "are at a PLACE (HOME at first, which stays),").after("way(3, 4, 5, 0)", "person(3, 0, 50)").is("of(0, 0)", 3).is("of(0, 3)", 3)
            .is("go(0, 4)", 45).is("of(0, 0)", 3).is("of(0, 3)", 4);
    }

    private static void rings() {
        new Edge(5, "have a RING (steps, 0 .. 99999),").is("person(0, 0, 0)", 0).is("person(0, 0, 99999)", 1).is("of(0, 2)", 0).is("of(1, 2)", 99999)
            .takesOnly("person(0, 0, #)", 0, 99999);
    }

    private static void kinds() {
        new Edge(5, "are of a KIND.").is("person(0, 0, 5)", 0).is("person(0, 1, 5)", 1).is("person(0, 2, 5)", 2).is("person(0, 3, 5)", 3)
            .is("of(0, 1)", 0).is("of(1, 1)", 1).is("of(2, 1)", 2).is("of(3, 1)", 3).takesOnly("person(0, #, 5)", 0, 3);
    }

    private static void of() {
        new Edge(6, "Of one: 0 HOME, 1 KIND, 2 RING, 3 the PLACE now, 4 what GATES count. BAD.").after("way(7, 9, 10, 0)", "gate(0, true)")
            .after("person(7, 1, 500)", "person(9, 2, 77)", "go(0, 9)")
            .is("of(0, 0)", 7).is("of(0, 1)", 1).is("of(0, 2)", 480).is("of(0, 3)", 9).is("of(0, 4)", 20)
            .is("of(1, 0)", 9).is("of(1, 1)", 2).is("of(1, 2)", 77).is("of(1, 3)", 9).is("of(1, 4)", 0)
            .takesOnly("of(#, 0)", 0, 1).takesOnly("of(#, 4)", 0, 1).refuses("of(8, 0)", BAD).takesOnly("of(0, #)", 0, 4);
    }

    private static void costsUpAndDown() {
        new Edge(7, "A WAY gone through from one PLACE to the other, UP floors up (below 0: down), COSTS:")
            .people("ag1,ac1,ao1,ap1", 4).after("way(0, 1, 10, 2)", "way(0, 1, 10, -2)", "way(0, 1, 10, 0)")
            .is("costs(0, 0, 0)", 16).is("costs(0, 0, 1)", 10).is("costs(0, 1, 0)", 10).is("costs(0, 1, 1)", 16).is("costs(0, 2, 0)", 10).is("costs(0, 2, 1)", 10)
            .is("costs(1, 0, 1)", 20).is("costs(2, 0, 1)", 10).is("costs(3, 0, 1)", 5).is("costs(1, 1, 1)", 32).is("costs(2, 1, 1)", 21).is("costs(3, 1, 1)", 10);
    }

    private static void costsOfGrown() {
        new Edge(7, "0 GROWN: LENGTH, and 3 for each floor up;").after("person(0, 0, 1)", "way(0, 1, 1, 0)", "way(0, 1, 1, 1)", "way(0, 1, 99, 9)", "way(0, 1, 99, -9)")
            .is("costs(0, 0, 0)", 1).is("costs(0, 1, 0)", 4).is("costs(0, 1, 1)", 1).is("costs(0, 2, 0)", 126).is("costs(0, 2, 1)", 99)
            .is("costs(0, 3, 0)", 99).is("costs(0, 3, 1)", 126);
    }

    private static void costsOfChild() {
        new Edge(7, "below it 1 CHILD: twice that;").after("person(0, 1, 1)", "way(0, 1, 1, 0)", "way(0, 1, 1, 1)", "way(0, 1, 99, 9)")
            .is("costs(0, 0, 0)", 2).is("costs(0, 1, 0)", 8).is("costs(0, 1, 1)", 2).is("costs(0, 2, 0)", 252).is("costs(0, 2, 1)", 198);
    }

    private static void costsOfOld() {
        new Edge(7, "2 OLD: that, and LENGTH by 2 more, if it goes up;")
            .after("person(0, 2, 1)", "way(0, 1, 1, 0)", "way(0, 1, 1, 1)", "way(0, 1, 2, 1)", "way(0, 1, 3, 1)", "way(0, 1, 99, 9)", "way(0, 1, 99, 0)")
            .is("costs(0, 0, 0)", 1).is("costs(0, 1, 0)", 4).is("costs(0, 1, 1)", 1).is("costs(0, 2, 0)", 6).is("costs(0, 2, 1)", 2).is("costs(0, 3, 0)", 7)
            .is("costs(0, 4, 0)", 175).is("costs(0, 4, 1)", 99).is("costs(0, 5, 0)", 99).is("costs(0, 5, 1)", 99);
    }

    private static void costsOfPostman() {
        new Edge(7, "3 POSTMAN (below OLD): half of what it COSTS an OLD one, 1 at least.")
            .after("person(0, 3, 1)", "way(0, 1, 1, 0)", "way(0, 1, 2, 0)", "way(0, 1, 3, 0)", "way(0, 1, 4, 0)", "way(0, 1, 1, 1)", "way(0, 1, 3, 1)", "way(0, 1, 99, 9)")
            .is("costs(0, 0, 0)", 1).is("costs(0, 1, 0)", 1).is("costs(0, 2, 0)", 1).is("costs(0, 3, 0)", 2).is("costs(0, 4, 0)", 2).is("costs(0, 4, 1)", 1)
            .is("costs(0, 5, 0)", 3).is("costs(0, 6, 0)", 87).is("costs(0, 6, 1)", 49);
    }

    private static void costs() {
        new Edge(7, "What a WAY COSTS one, from its first PLACE (0), from its second (1). BAD.").after("person(0, 0, 1)", "person(0, 1, 1)", "way(0, 1, 10, 3)")
            .is("costs(0, 0, 0)", 19).is("costs(0, 0, 1)", 10).is("costs(1, 0, 0)", 38).is("costs(1, 0, 1)", 20)
            .takesOnly("costs(#, 0, 0)", 0, 1).takesOnly("costs(0, #, 0)", 0, 0).takesOnly("costs(0, 0, #)", 0, 1)
            .refuses("costs(8, 0, 0)", BAD).refuses("costs(0, 24, 0)", BAD);
    }

    private static void farOfTheSame() {
        Edge e = new Edge(8, "(0: the same), or there is none.").after("person(0, 0, 0)", "way(0, 1, 5, 0)");
        for (int place = 0; place < 12; place++) {
            e.is("far(0, " + place + ", " + place + ")", 0);
        }
        e.refuses("far(0, 0, 2)", NONE).refuses("far(0, 2, 0)", NONE).refuses("far(0, 10, 11)", NONE);
    }

    private static void farIsLeast() {
        // all twelve in a row, up nine floors each: eleven ways, the longest that there can be
        Edge e = new Edge(8, "FAR of one from a PLACE to a PLACE: the least COSTS together of WAYS that lead there").people("ag0,ac0,ao0,ap0", 4);
        for (int i = 0; i < 11; i++) {
            e.after("way(" + i + ", " + (i + 1) + ", 99, 9)");
        }
        e.is("far(0, 0, 11)", 11 * 126).is("far(0, 11, 0)", 11 * 99).is("far(1, 0, 11)", 11 * 252).is("far(1, 11, 0)", 11 * 198)
            .is("far(2, 0, 11)", 11 * 175).is("far(2, 11, 0)", 11 * 99).is("far(3, 0, 11)", 11 * 87).is("far(3, 11, 0)", 11 * 49)
            // a shorter way, one as long, and one longer by one
            .after("way(0, 1, 99, 8)").is("far(0, 0, 1)", 123).is("far(0, 0, 11)", 10 * 126 + 123)
            .after("way(5, 7, 98, 0)").is("far(0, 5, 7)", 98).is("far(0, 7, 5)", 98).is("far(1, 7, 5)", 196)
            .after("way(5, 6, 1, 0)", "way(6, 7, 97, 0)").is("far(0, 5, 7)", 98).after("way(6, 7, 96, 0)").is("far(0, 5, 7)", 97).is("far(0, 7, 5)", 97);
    }

    /** What is known of one kind is not known of another, whoever asks first. */
    private static void farOfKindsInAnyOrder() {
        String said = "FAR of one from a PLACE to a PLACE: the least COSTS together of WAYS that lead there";
        int[] least = {16, 32, 21, 10};
        for (int first = 0; first < 4; first++) {
            for (int second = 0; second < 4; second++) {
                Edge e = new Edge(8, said).people("ag0,ac0,ao0,ap0", 4).after("way(0, 1, 10, 2)");
                e.is("far(" + first + ", 0, 1)", least[first]).is("far(" + second + ", 0, 1)", least[second]);
                // another town: what was known of the old one is not told of it
                e.town("cd7", 1).refuses("far(" + second + ", 0, 1)", NONE).refuses("far(" + first + ", 0, 1)", NONE);
                e.after("way(0, 1, 10, 2)").is("far(" + second + ", 0, 1)", least[second]).is("far(" + first + ", 0, 1)", least[first]);
            }
        }
    }

    private static void far() {
        new Edge(8, "FAR. BAD; NONE: there is none.").after("person(0, 0, 0)", "person(5, 1, 9)").refuses("far(0, 0, 1)", NONE).after("way(0, 1, 5, 0)")
            .is("far(0, 0, 1)", 5).is("far(1, 0, 1)", 10).town("cd5", 1).refuses("far(0, 0, 1)", NONE).is("far(0, 2, 3)", 5)
            .takesOnly("far(#, 0, 0)", 0, 1).refuses("far(8, 0, 0)", BAD).takesOnly("far(0, #, 2)", 0, 11).takesOnly("far(0, 2, #)", 0, 11);
    }

    private static void given() {
        new Edge(9, "GIVEN to a KIND: what it was. BAD.").is("given(0, 0)", 400).is("given(0, 9999)", 0).is("given(0, 1)", 9999).is("given(0, 5)", 1)
            .is("given(1, 7)", 300).is("given(2, 8)", 500).is("given(3, 9)", 900).is("given(0, 5)", 5).is("given(1, 7)", 7).is("given(2, 8)", 8).is("given(3, 9)", 9)
            .takesOnly("given(#, 5)", 0, 3).takesOnly("given(0, #)", 0, 9999);
    }

    private static void rule() {
        new Edge(10, "THE LAW: what it was. BAD.").is("rule(0)", 0).is("rule(2)", 0).is("rule(2)", 2).is("rule(1)", 2).is("rule(0)", 1)
            .takesOnly("rule(#)", 0, 2).is("rule(0)", 0);
    }

    private static void count() {
        Edge e = new Edge(14, "How many: 0 WAYS, 1 PEOPLE, 2 ERRANDS, 3 steps in all RINGS, 4 steps OWED, 5 steps spent since the beginning "
            + "(of those who went and carried; 1000000000 at most). BAD.")
            .takesOnly("count(#)", 0, 5).town("ab10" + ",ab1".repeat(22), 23);
        for (int p = 0; p < 8; p++) {
            e.after("person(0, 0, 99999)");
        }
        for (int i = 0; i < 6; i++) {
            e.after("errand(0)");
        }
        e.is("count(0)", 23).is("count(1)", 8).is("count(2)", 6).is("count(3)", 8 * 99999).is("count(4)", 0).is("count(5)", 0)
            .after("lend(0, 7, 99999)").is("count(3)", 7 * 99999).is("count(4)", 99999).after("lend(7, 0, 5)").is("count(4)", 100004)
            .after("pay(0, 7, 5)").is("count(4)", 99999).after("go(1, 1)").is("count(5)", 1).after("carry(2, 3, 1)").is("count(5)", 3)
            .refuses("go(0, 2)", NONE).refuses("go(0, 1)", NOT).is("count(5)", 3).after("month()").is("count(5)", 3).is("count(4)", 0)
            .is("count(3)", 8 * 400).after("rest()").is("count(2)", 0);
    }

    /** More calls than are promised are needed for it; that nothing is lost or gained below it is seen at once. */
    private static void spentAtMost() {
        String said = "promise 14, '(of those who went and carried; 1000000000 at most)': ";
        StepRings x = new StepRings();
        for (int i = 0; i < 11; i++) {
            x.way(i, i + 1, 99, 9);
        }
        x.given(1, 9999);
        x.person(0, 1, 9999);
        x.person(0, 0, 0);
        int up = 2 * 11 * 252, down = 2 * 11 * 198, round = up + down;
        Edge.same(said + "up", x.carry(0, 1, 11), 9999 - up);
        Edge.same(said + "down", x.carry(0, 1, 0), 9999 - round);
        Edge.same(said + "a round", x.count(5), round);
        int rounds = 1000000000 / round;
        for (int i = 1; i < rounds; i++) {
            x.month();
            x.carry(0, 1, 11);
            x.carry(0, 1, 0);
        }
        Edge.same(said + "rounds", x.count(5), rounds * round);
        x.month();
        x.carry(0, 1, 11);
        Edge.same(said + "at most", x.count(5), 1000000000);
        x.carry(0, 1, 0);
        Edge.same(said + "no more", x.count(5), 1000000000);
    }
}
