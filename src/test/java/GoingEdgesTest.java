/** Promises 15 to 20, each sentence tried where it ends. */
final class GoingEdgesTest {
    private static final int BAD = Edge.BAD, NOT = Edge.NOT, FULL = Edge.FULL, NONE = Edge.NONE;

    public static void main(String[] args) {
        goWithSoMuch();
        goFarthest();
        leastNumber();
        atEachPlaceAnew();
        gatesCount();
        go();
        carryFromTheSamePlace();
        carryForTwice();
        bothAreThere();
        carry();
        lent();
        lend();
        paidBack();
        pay();
        owes();
        ringAtMost();
        monthPaysByNumbers();
        monthPaysWhatTheRingHas();
        monthLosesWhatIsMore();
        lost();
        kept();
        half();
        givenAtFirst();
        allGoHome();
        month();
        Edge.end();
    }

    private static void goWithSoMuch() {
        new Edge(15, "TO GO to a PLACE: FAR goes from the RING, if it has so much; else one is STUCK (and does not go).")
            .town("a+1b10g,bc5", 2).people("ag18,ag17,ag19,ag0", 4)
            .refuses("go(1, 2)", NOT).refuses("go(3, 1)", NOT).is("go(0, 2)", 0).is("go(2, 2)", 1).is("of(0, 3)", 2).is("of(2, 3)", 2)
            .refuses("go(0, 1)", NOT).refuses("go(2, 0)", NOT)
            // a part of the way is not gone either, though there are steps for it
            .is("of(1, 3)", 0).is("of(1, 2)", 17).is("of(1, 4)", 0)
            // nothing is needed for where one is
            .is("go(3, 0)", 0).is("go(0, 2)", 0).is("of(0, 4)", 13).is("count(5)", 36);
    }

    private static void goFarthest() {
        Edge e = new Edge(15, "TO GO to a PLACE: FAR goes from the RING, if it has so much;");
        for (int i = 0; i < 11; i++) {
            e.after("way(" + i + ", " + (i + 1) + ", 99, 9)", "gate(" + i + ", true)");
        }
        e.people("ac2772,ac2771,ac99999", 3).is("go(0, 11)", 0).refuses("go(1, 11)", NOT).is("go(2, 11)", 97227).is("of(0, 3)", 11).is("of(0, 4)", 2772)
            .is("go(2, 0)", 97227 - 2178).is("of(2, 4)", 4950).is("count(5)", 2772 + 4950);
    }

    private static void leastNumber() {
        String said = "Of WAYS by which that is so the one of the least number is gone,";
        new Edge(15, said).town("ab5,ab5g", 2).people("ag9", 1).is("go(0, 1)", 4).is("of(0, 4)", 0);
        new Edge(15, said).town("ab5g,ab5", 2).people("ag9", 1).is("go(0, 1)", 4).is("of(0, 4)", 5);
        new Edge(15, said).town("ba5g,ab5", 2).people("ag9", 1).is("go(0, 1)", 4).is("of(0, 4)", 5);
        // a dearer way is not by which that is so, whatever its number
        new Edge(15, said).town("ab6g,ab5", 2).people("ag9", 1).is("go(0, 1)", 4).is("of(0, 4)", 0);
        new Edge(15, said).town("a+1b5g,ab7", 2).people("ag9", 1).is("go(0, 1)", 2).is("of(0, 4)", 0);
        // one long way as dear as two short ones
        new Edge(15, said).town("ac10g,ab5,bc5", 3).people("ag10", 1).is("go(0, 2)", 0).is("of(0, 4)", 10);
        new Edge(15, said).town("ab5,bc5,ac10g", 3).people("ag10", 1).is("go(0, 2)", 0).is("of(0, 4)", 0);
        // the last of 24
        new Edge(15, said).town("ab2g" + ",ab2g".repeat(22) + ",ab1", 24).people("ag9", 1).is("go(0, 1)", 8).is("of(0, 4)", 0);
        new Edge(15, said).town("ab2" + ",ab2".repeat(22) + ",ab1g", 24).people("ag9", 1).is("go(0, 1)", 8).is("of(0, 4)", 1);
    }

    private static void atEachPlaceAnew() {
        String said = "the one of the least number is gone, at each PLACE anew.";
        new Edge(15, said).town("bc5,ab4g,ab4,bc5g", 4).people("ag99", 1).is("go(0, 2)", 90).is("of(0, 4)", 4).is("go(0, 0)", 81).is("of(0, 4)", 8);
        // way 0 is on the one row of ways only, but is not at the first place
        new Edge(15, said).town("bd5g,ac5,cd5,ab5g", 4).people("ag99,dg99", 2).is("go(0, 3)", 89).is("of(0, 4)", 0)
            // from d it is: by ways 0 and 3
            .is("go(1, 0)", 89).is("of(1, 4)", 10);
        // at b the least number leads away from the goal, and is not gone
        new Edge(15, said).town("be1g,ab5,bc5g", 3).people("ag99", 1).is("go(0, 2)", 89).is("of(0, 4)", 5);
    }

    private static void gatesCount() {
        new Edge(15, "What a WAY with a GATE takes from the RING is added to what GATES count of that one.").town("a+2b11g,bc7,cd9g", 3).people("ag99,ac99,ao99,ap99", 4)
            .is("go(0, 3)", 99 - 33).is("of(0, 4)", 26).is("of(1, 4)", 0).is("go(1, 1)", 99 - 34).is("of(1, 4)", 34).is("go(2, 1)", 99 - 22).is("of(2, 4)", 22)
            .is("go(3, 1)", 99 - 11).is("of(3, 4)", 11).is("go(3, 0)", 88 - 5).is("of(3, 4)", 16).is("of(0, 4)", 26)
            // as gates are when one goes
            .after("gate(0, false)", "gate(1, true)").is("go(2, 2)", 77 - 7).is("of(2, 4)", 29).is("go(1, 0)", 65 - 22).is("of(1, 4)", 34)
            // carrying takes twice
            .after("go(0, 2)").is("of(0, 4)", 35).is("carry(0, 2, 1)", 66 - 9 - 14).is("of(0, 4)", 49).is("of(2, 4)", 29);
    }

    private static void go() {
        new Edge(15, "TO GO: what the RING has then. BAD; NONE: there is no way; NOT: STUCK.").town("ab5", 1).people("ag5,lg99999", 2)
            .takesOnly("go(#, 0)", 0, 1).refuses("go(8, 0)", BAD).takesOnly("go(0, #)", 0, 11).refuses("go(0, 2)", NONE).refuses("go(1, 0)", NONE)
            .is("go(0, 1)", 0).refuses("go(0, 0)", NOT).is("go(1, 11)", 99999);
    }

    private static void carryFromTheSamePlace() {
        new Edge(16, "TO CARRY: one at the same PLACE as another one goes to a PLACE with that one:").town("ab5,bc5", 2).people("ag99,bg99,bg0", 3)
            .refuses("carry(0, 1, 2)", NOT).refuses("carry(1, 0, 2)", NOT).refuses("carry(0, 1, 1)", NOT).refuses("carry(0, 1, 0)", NOT)
            .is("carry(1, 2, 2)", 89).is("of(1, 3)", 2).is("of(2, 3)", 2).is("go(0, 2)", 89).is("carry(0, 1, 0)", 69).is("of(1, 3)", 0)
            // they are at one place now, which is not where both live; to stay there is free
            .is("carry(2, 1, 2)", NOT).is("carry(1, 0, 0)", 89).is("of(2, 3)", 2);
    }

    private static void carryForTwice() {
        String said = "by the same WAYS as alone, each for twice its COSTS, which go from the RING of who carries;";
        new Edge(16, said).town("ab10g,bc5", 2).people("ag30,ag29,ag0,ag31", 4).refuses("carry(1, 2, 2)", FULL).is("carry(0, 2, 2)", 0).is("of(2, 2)", 0)
            .is("carry(3, 1, 2)", 1).is("of(1, 2)", 29).is("of(0, 4)", 20).is("count(5)", 60);
        // twice the halves of a postman, each cut and 1 at least: 1 and 4, not half of the whole
        new Edge(16, said).town("ab1,bc9", 2).people("ap10,ap9,ap0", 3).is("far(0, 0, 2)", 5).refuses("carry(1, 2, 2)", FULL).is("carry(0, 2, 2)", 0);
        // the kind of who is carried does not matter; of like ways the least number, as alone
        new Edge(16, said).town("ab5,ab5g", 2).people("ag10,ac0", 2).is("carry(0, 1, 1)", 0).is("of(0, 4)", 0);
        new Edge(16, said).town("ab5g,ab5", 2).people("ac20,ag0", 2).is("carry(0, 1, 1)", 0).is("of(0, 4)", 20);
        // a long and dear way: as far as there can be
        Edge e = new Edge(16, said);
        for (int i = 0; i < 11; i++) {
            e.after("way(" + i + ", " + (i + 1) + ", 99, 9)");
        }
        e.people("ac5544,ac5543,ag0", 3).refuses("carry(1, 2, 11)", FULL).is("carry(0, 2, 11)", 0).is("of(2, 3)", 11).is("count(5)", 5544);
    }

    private static void bothAreThere() {
        new Edge(16, "both are there then (GATES count nothing of who is carried).").town("ab5g", 1).people("ag99,ag99", 2).after("go(1, 1)", "go(1, 0)").is("of(1, 4)", 10)
            .is("carry(0, 1, 1)", 89).is("of(0, 3)", 1).is("of(1, 3)", 1).is("of(0, 4)", 10).is("of(1, 4)", 10).is("of(1, 2)", 89).is("of(1, 0)", 0);
    }

    private static void carry() {
        new Edge(16, "TO CARRY: what the RING has then. BAD: also one alike; NOT: they are not at one PLACE; NONE: there is no way; FULL: STUCK.").town("ab5", 1)
            .people("ag10,ag9,bg99", 3).takesOnly("carry(#, 1, 0)", 0, 2).takesOnly("carry(1, #, 0)", 0, 2).takesOnly("carry(0, 1, #)", 0, 11)
            .refuses("carry(0, 0, 0)", BAD).refuses("carry(2, 2, 1)", BAD).refuses("carry(0, 2, 1)", NOT).refuses("carry(0, 1, 2)", NONE).refuses("carry(1, 0, 1)", FULL)
            .is("carry(1, 0, 0)", 9).is("carry(0, 1, 1)", 0);
    }

    private static void lent() {
        new Edge(17, "LENT steps go from a RING to another RING at once, and are OWED by that other one then;").people("ag99999,bg0,cg5", 3)
            .is("lend(0, 1, 1)", 99998).is("of(1, 2)", 1).is("owes(1, 0)", 1).is("owes(0, 1)", 0).is("lend(0, 1, 99998)", 0).is("of(1, 2)", 99999).is("owes(1, 0)", 99999)
            // the other way round it is owed besides, not instead; what is lent on is owed to who lends it
            .is("lend(1, 0, 4)", 99995).is("owes(0, 1)", 4).is("owes(1, 0)", 99999).is("lend(1, 2, 6)", 99989).is("owes(2, 1)", 6).is("owes(2, 0)", 0)
            .is("owes(1, 0)", 99999).is("count(4)", 99999 + 4 + 6).is("count(3)", 99999 + 5);
    }

    private static void lend() {
        new Edge(17, "Steps (1 .. 99999) are LENT: what the first RING has then. BAD: also one alike; NOT: it has not so many.").people("ag99999,bg7,cg0", 3)
            .takesOnly("lend(#, 1, 5)", 0, 2).takesOnly("lend(1, #, 5)", 0, 2).takesOnly("lend(0, 1, #)", 1, 99999).refuses("lend(0, 1, -1)", BAD)
            .refuses("lend(0, 0, 5)", BAD).refuses("lend(2, 2, 5)", BAD).refuses("lend(8, 0, 5)", BAD)
            .refuses("lend(1, 0, 8)", NOT).refuses("lend(2, 0, 1)", NOT).refuses("lend(1, 0, 99999)", NOT)
            .is("lend(1, 2, 7)", 0).is("lend(0, 2, 99992)", 7).refuses("lend(0, 2, 8)", NOT).is("lend(2, 0, 99999)", 0);
    }

    private static void paidBack() {
        new Edge(18, "steps PAID BACK go likewise, and are OWED no more.").people("ag50,bg5", 2).after("lend(0, 1, 40)")
            .is("pay(1, 0, 1)", 44).is("of(0, 2)", 11).is("owes(1, 0)", 39).is("owes(0, 1)", 0).is("pay(1, 0, 39)", 5).is("of(0, 2)", 50).is("owes(1, 0)", 0).is("count(4)", 0)
            .refuses("pay(1, 0, 1)", NOT).refuses("pay(0, 1, 1)", NOT);
    }

    private static void pay() {
        new Edge(18, "Steps OWED by one to another are PAID BACK: what the first RING has then. BAD: also one alike; NOT: it has not so many, or OWES not so many.")
            .town("ab20", 1).people("ag99999,ag30,ag9", 3).after("lend(0, 1, 40)").is("of(1, 2)", 70)
            .takesOnly("pay(#, 0, 1)", 0, 2).takesOnly("pay(1, #, 1)", 0, 2).refuses("pay(1, 0, 0)", BAD).refuses("pay(1, 0, -1)", BAD).refuses("pay(1, 0, MIN)", BAD)
            .refuses("pay(1, 0, 100000)", BAD).refuses("pay(1, 0, MAX)", BAD).refuses("pay(1, 1, 1)", BAD).refuses("pay(2, 2, 1)", BAD).refuses("pay(8, 0, 1)", BAD)
            // has them, owes one less
            .refuses("pay(1, 0, 41)", NOT).refuses("pay(1, 2, 1)", NOT).refuses("pay(0, 1, 1)", NOT)
            // owes them, has one less
            .after("go(1, 1)", "go(1, 0)", "go(1, 1)").is("of(1, 2)", 10).refuses("pay(1, 0, 11)", NOT).refuses("pay(1, 0, 99999)", NOT).is("pay(1, 0, 10)", 0)
            .refuses("pay(1, 0, 1)", NOT).is("owes(1, 0)", 30);
    }

    private static void owes() {
        Edge e = new Edge(19, "What one OWES another. BAD: also one alike.").people("ag99,bg99", 2).is("owes(0, 1)", 0).is("owes(1, 0)", 0)
            .after("lend(0, 1, 5)").is("owes(1, 0)", 5).is("owes(0, 1)", 0).takesOnly("owes(#, 0)", 0, 1).takesOnly("owes(0, #)", 0, 1)
            .refuses("owes(0, 0)", BAD).refuses("owes(1, 1)", BAD).refuses("owes(8, 0)", BAD).refuses("owes(0, 8)", BAD);
        for (int p = 2; p < 8; p++) {
            e.is("person(0, 0, 9)", p).is("owes(" + p + ", 0)", 0).is("owes(0, " + p + ")", 0).is("lend(" + p + ", 0, " + p + ")", 9 - p).is("owes(0, " + p + ")", p);
        }
    }

    private static void ringAtMost() {
        String said = "A RING has 99999 at most: what would be more is lost.";
        new Edge(17, said).people("ag10,ag99989,ag99990,ag99999", 4).is("lend(0, 1, 10)", 0).is("of(1, 2)", 99999).is("owes(1, 0)", 10)
            .is("lend(1, 2, 10)", 99989).is("of(2, 2)", 99999).is("owes(2, 1)", 10).is("lend(1, 2, 1)", 99988).is("of(2, 2)", 99999).is("owes(2, 1)", 11)
            .is("lend(3, 2, 99999)", 0).is("of(2, 2)", 99999).is("owes(2, 3)", 99999);
        new Edge(18, said).people("ag50,ag0,ag99999", 3).after("lend(0, 1, 50)", "lend(2, 0, 99950)").is("of(0, 2)", 99950).is("pay(1, 0, 49)", 1).is("of(0, 2)", 99999)
            .is("pay(1, 0, 1)", 0).is("of(0, 2)", 99999).is("owes(1, 0)", 0);
        new Edge(20, said).people("ag99999,ag90000,ag90001,ag0", 4).after("given(0, 9999)", "rule(1)").is("month()", 0).is("of(0, 2)", 99999).is("of(1, 2)", 99999)
            .is("of(2, 2)", 99999).is("of(3, 2)", 9999);
    }

    private static void monthPaysByNumbers() {
        String said = "MONTH'S END: first each by numbers PAYS BACK to each by numbers";
        // 1 has nothing but what 0 pays first, and pays it on
        new Edge(20, said).town("ab10", 1).people("ag0,ag10,ag10", 3).after("lend(1, 0, 10)", "lend(2, 1, 10)", "go(1, 1)", "given(0, 0)").is("month()", 20)
            .is("count(4)", 0);
        // 1 has nothing when it is to pay: 2 pays it afterwards
        new Edge(20, said).town("ab10", 1).people("ag10,ag10,ag0", 3).after("lend(1, 2, 10)", "lend(0, 1, 10)", "go(1, 1)", "given(0, 0)", "rule(1)").is("month()", 10)
            .is("owes(1, 0)", 10).is("owes(2, 1)", 0).is("of(1, 2)", 10).is("month()", 10).is("of(0, 2)", 10).is("count(4)", 0);
        // 2 pays 0 ahead of 1
        new Edge(20, said).town("ab12", 1).people("ag10,ag10,ag0", 3).after("lend(1, 2, 10)", "lend(0, 2, 10)", "go(2, 1)").is("month()", 8).is("owes(2, 0)", 2).is("owes(2, 1)", 10);
        // the first and the last of eight: 0 has 8 of the 9 it owes, 6 has nothing when it is to pay, 7 pays 0 and then 6
        new Edge(20, said).people("ag9,ag9,ag9,ag9,ag9,ag9,ag9,ag9", 8).after("lend(0, 7, 9)", "lend(7, 0, 9)", "lend(0, 6, 1)", "lend(6, 7, 10)")
            .is("month()", 8 + 9 + 10).is("owes(0, 7)", 1).is("owes(6, 0)", 1).is("owes(7, 0)", 0).is("owes(7, 6)", 0);
    }

    private static void monthPaysWhatTheRingHas() {
        String said = "as much as is OWED and the RING has;";
        new Edge(20, said).town("ab7", 1).people("ag0,ag10,ag10", 3).after("lend(1, 0, 10)", "lend(2, 0, 10)", "go(0, 1)", "given(0, 0)", "rule(1)").is("month()", 13)
            .is("owes(0, 1)", 0).is("owes(0, 2)", 7).is("of(0, 2)", 0).is("of(1, 2)", 10).is("of(2, 2)", 3).is("month()", 0).is("owes(0, 2)", 7);
        // just so much, and one less
        new Edge(20, said).town("ab5,ac6", 2).people("ag5,ag10", 2).after("lend(1, 0, 10)", "go(0, 1)").is("month()", 10).is("owes(0, 1)", 0);
        new Edge(20, said).town("ab5,ac6", 2).people("ag5,ag10", 2).after("lend(1, 0, 10)", "go(0, 2)").is("month()", 9).is("owes(0, 1)", 1);
        new Edge(20, said).people("ag5,ag10", 2).is("month()", 0);
    }

    private static void monthLosesWhatIsMore() {
        // 1 is full when 0 pays it back, and pays 2 only then
        new Edge(20, "A RING has 99999 at most: what would be more is lost.").people("ag0,ag99999,ag10", 3).after("lend(1, 0, 10)", "lend(2, 1, 10)", "given(0, 0)", "rule(1)")
            .is("of(1, 2)", 99999).is("month()", 20).is("of(0, 2)", 0).is("of(1, 2)", 99989).is("of(2, 2)", 10).is("count(4)", 0);
    }

    private static void lost() {
        new Edge(20, "then by THE LAW: 0 LOST (each RING is what its KIND is GIVEN),").people("ag0,ag99999,ac7,ao500,ap1", 5).is("rule(0)", 0).is("month()", 0)
            .is("of(0, 2)", 400).is("of(1, 2)", 400).is("of(2, 2)", 300).is("of(3, 2)", 500).is("of(4, 2)", 900)
            .after("given(0, 0)", "given(1, 9999)").is("month()", 0).is("of(0, 2)", 0).is("of(1, 2)", 0).is("of(2, 2)", 9999).is("of(3, 2)", 500);
    }

    private static void kept() {
        new Edge(20, "1 KEPT (is more by that),").people("ag0,ag99598,ag99599,ag99600,ac7,ap99999", 6).after("rule(1)").is("month()", 0).is("of(0, 2)", 400).is("of(1, 2)", 99998)
            .is("of(2, 2)", 99999).is("of(3, 2)", 99999).is("of(4, 2)", 307).is("of(5, 2)", 99999)
            .after("given(0, 0)").is("month()", 0).is("of(0, 2)", 400).is("of(1, 2)", 99998);
    }

    private static void half() {
        new Edge(20, "2 HALF (is half of itself, cut, and that);").people("ag0,ag1,ag2,ag3,ag99999,ac99998,ap5", 7).after("rule(2)").is("month()", 0).is("of(0, 2)", 400)
            .is("of(1, 2)", 400).is("of(2, 2)", 401).is("of(3, 2)", 401).is("of(4, 2)", 50399).is("of(5, 2)", 50299).is("of(6, 2)", 902)
            .after("given(0, 9999)").is("month()", 0).is("of(4, 2)", 25199 + 9999);
        // what is paid back first is halved then
        new Edge(20, "2 HALF (is half of itself, cut, and that);").people("ag10,ag0", 2).after("rule(2)", "given(0, 0)", "lend(0, 1, 7)").is("month()", 7).is("of(0, 2)", 5).is("of(1, 2)", 0);
    }

    private static void givenAtFirst() {
        new Edge(9, "GIVEN to KINDS 0 .. 3, at first: 400 300 500 900 (0 .. 9999).").is("given(0, 400)", 400).is("given(1, 300)", 300).is("given(2, 500)", 500).is("given(3, 900)", 900)
            .takesOnly("given(#, 400)", 0, 3).takesOnly("given(3, #)", 0, 9999).people("ag1,ac1,ao1,ap1", 4).is("month()", 0)
            .is("of(0, 2)", 400).is("of(1, 2)", 300).is("of(2, 2)", 500).is("of(3, 2)", 900)
            .is("given(0, 9999)", 400).is("given(3, 0)", 900).is("month()", 0).is("of(0, 2)", 9999).is("of(1, 2)", 300).is("of(2, 2)", 500).is("of(3, 2)", 0);
    }

    private static void allGoHome() {
        new Edge(20, "All go HOME, for nothing; GATES count 0 of all again.").town("ab10g,bc10g", 2).people("ag30,cg40,bg0", 3).after("go(0, 2)", "carry(1, 0, 1)", "given(0, 0)", "rule(1)")
            .is("of(0, 2)", 10).is("of(0, 4)", 20).is("of(1, 4)", 20)
            // no way leads home now, and the ring would not have the steps
            .town("ef1", 1).is("month()", 0).is("of(0, 3)", 0).is("of(1, 3)", 2).is("of(2, 3)", 1).is("of(0, 2)", 10).is("of(1, 2)", 20).is("of(0, 4)", 0).is("of(1, 4)", 0)
            .is("count(5)", 40);
    }

    private static void month() {
        new Edge(20, "MONTH'S END: how many steps are PAID BACK.").is("month()", 0).people("ag5,ag5", 2).is("month()", 0).after("lend(0, 1, 1)").is("month()", 1).is("month()", 0)
            .after("lend(0, 1, 400)", "pay(1, 0, 100)").is("month()", 300).is("count(4)", 0);
        Edge e = new Edge(20, "MONTH'S END: how many steps are PAID BACK.");
        for (int p = 0; p < 8; p++) {
            e.after("person(0, 0, 99999)");
        }
        for (int p = 0; p < 7; p++) {
            e.after("lend(" + p + ", 7, 99999)");
        }
        // 7 is full all the time and owes seven times that; it pays 0 alone
        e.is("count(4)", 7 * 99999).is("of(7, 2)", 99999).is("month()", 99999).is("owes(7, 0)", 0).is("owes(7, 1)", 99999).is("count(4)", 6 * 99999)
            .is("month()", 400).is("owes(7, 1)", 99599);
    }
}
