/** Promises 15 to 20. */
final class GoingTest {
    private static final int MIN = Integer.MIN_VALUE, MAX = Integer.MAX_VALUE;
    private static final Due due = new Due();

    public static void main(String[] args) {
        go();
        goByTheLeastNumber();
        carry();
        lend();
        pay();
        owes();
        monthPays();
        monthPaysByNumbers();
        monthOfFullHouse();
        monthByLaw();
        due.end();
    }

    private static void state(String what, StepRings x, int person, int ring, int place, int gates) {
        due.is(what + ": ring", x.of(person, 2), ring);
        due.is(what + ": place", x.of(person, 3), place);
        due.is(what + ": gates", x.of(person, 4), gates);
    }

    private static void go() {
        StepRings x = Due.made("a+1b10g,bc9,cd5g,de99", "ag42,ac27,lp0");
        due.is("15 three ways", x.go(0, 3), 42 - 13 - 9 - 5);
        state("15 three ways", x, 0, 15, 3, 18);
        due.is("15 stuck", x.go(0, 0), -2);
        state("15 stuck", x, 0, 15, 3, 18);
        due.is("15 with all the ring has", x.go(0, 1), 1);
        state("15 with all the ring has", x, 0, 1, 1, 23);
        due.is("15 none", x.go(0, 11), -4);
        due.is("15 none before stuck", x.go(2, 0), -4);
        due.is("15 the same place", x.go(0, 1), 1);
        due.is("15 the same place with nothing", x.go(2, 11), 0);
        due.is("15 a child", x.go(1, 1), 1);
        state("15 a child", x, 1, 1, 1, 26);
        due.is("15 stuck by one", x.go(1, 2), -2);
        due.is("15 spent", x.count(5), 27 + 14 + 26);
        int[][] bad = {{-1, 0}, {3, 0}, {8, 0}, {0, -1}, {0, 12}, {MIN, 0}, {MAX, 0}, {0, MIN}, {0, MAX}};
        for (int[] b : bad) {
            due.is("15 bad", x.go(b[0], b[1]), -1);
        }
        StepRings y = Due.made("ab10", "ag10");
        due.is("15 to nothing left", y.go(0, 1), 0);
    }

    private static void goByTheLeastNumber() {
        // c is as far over b as over d; way 0 leads to d
        StepRings x = Due.made("ad5g,ab5,bc5,dc5", "ag99");
        x.go(0, 2);
        due.is("15 over d by way 0", x.of(0, 4), 5);
        StepRings y = Due.made("ab5,ad5g,dc5g,bc5", "ag99");
        y.go(0, 2);
        due.is("15 over b by way 0", y.of(0, 4), 0);
        StepRings z = Due.made("ab6,ab5g,ab5", "ag99");
        due.is("15 of like ones the least", z.go(0, 1), 94);
        due.is("15 of like ones the least, gates", z.of(0, 4), 5);
        // dear way 0 is not gone though its number is least
        StepRings v = Due.made("ac50g,ab5,bc5g", "ag99,cc99");
        due.is("15 the cheapest", v.go(0, 2), 89);
        due.is("15 the cheapest, gates", v.of(0, 4), 5);
        due.is("15 back, a child", v.go(1, 0), 79);
        due.is("15 back, a child, gates", v.of(1, 4), 10);
        v.gate(2, false);
        v.gate(1, true);
        due.is("15 gates as they are now", v.go(0, 0), 79);
        due.is("15 gates as they are now, counted", v.of(0, 4), 10);
    }

    private static void carry() {
        StepRings x = Due.made("a+1b11g,bc3", "ap40,ag5,bg5,lg0,lg0");
        due.is("16 not at one place", x.carry(0, 2, 2), -2);
        due.is("16 a postman, each twice", x.carry(0, 1, 2), 40 - 2 * 9 - 2 * 1);
        state("16 who carries", x, 0, 20, 2, 18);
        state("16 who is carried", x, 1, 5, 2, 0);
        due.is("16 home stays", x.of(1, 0), 0);
        due.is("16 spent", x.count(5), 20);
        due.is("16 no way", x.carry(0, 1, 11), -4);
        due.is("16 no way before stuck", x.carry(3, 4, 0), -4);
        due.is("16 not before none", x.carry(0, 3, 11), -2);
        due.is("16 stuck", x.carry(1, 0, 1), -3);
        state("16 stuck, stays", x, 1, 5, 2, 0);
        state("16 stuck, stays too", x, 0, 20, 2, 18);
        due.is("16 the same place", x.carry(1, 0, 2), 5);
        due.is("16 back", x.carry(0, 1, 0), 20 - 2 - 10);
        state("16 back", x, 0, 8, 0, 28);
        state("16 back too", x, 1, 5, 0, 0);
        int[][] bad = {
            {-1, 0, 0}, {5, 0, 0}, {0, -1, 0}, {0, 5, 0}, {0, 0, 0}, {0, 1, -1}, {0, 1, 12},
            {MIN, 0, 0}, {0, MAX, 0}, {0, 1, MIN}, {0, 1, MAX}, {0, 2, 12}};
        for (int[] b : bad) {
            due.is("16 bad", x.carry(b[0], b[1], b[2]), -1);
        }
        StepRings y = Due.made("ab10g", "ag20,ag0,ag19");
        due.is("16 stuck by one", y.carry(2, 1, 1), -3);
        due.is("16 with all the ring has", y.carry(0, 1, 1), 0);
        due.is("16 gates count what it takes", y.of(0, 4), 20);
    }

    private static void lend() {
        StepRings x = Due.made("", "ag400,bc99990,cp0");
        due.is("17 lent", x.lend(0, 1, 100), 300);
        due.is("17 what is more is lost", x.of(1, 2), 99999);
        due.is("17 all is owed", x.owes(1, 0), 100);
        due.is("17 not owed the other way", x.owes(0, 1), 0);
        due.is("17 again", x.lend(0, 1, 300), 0);
        due.is("17 again, owed", x.owes(1, 0), 400);
        due.is("17 not so many", x.lend(0, 1, 1), -2);
        due.is("17 not so many of some", x.lend(2, 1, 99999), -2);
        due.is("17 all", x.lend(1, 2, 99999), 0);
        due.is("17 all, come", x.of(2, 2), 99999);
        int[][] bad = {
            {-1, 1, 5}, {3, 1, 5}, {0, -1, 5}, {0, 3, 5}, {2, 2, 5}, {2, 1, 0}, {2, 1, -1}, {2, 1, 100000},
            {MIN, 1, 5}, {0, MAX, 5}, {2, 1, MIN}, {2, 1, MAX}, {0, 0, 5}};
        for (int[] b : bad) {
            due.is("17 bad", x.lend(b[0], b[1], b[2]), -1);
        }
        due.is("17 owed in all", x.count(4), 400 + 99999);
    }

    private static void pay() {
        StepRings x = Due.made("ab50", "ag400,bg0,ag99999");
        x.lend(0, 1, 100);
        due.is("18 a part", x.pay(1, 0, 30), 70);
        due.is("18 a part, come", x.of(0, 2), 330);
        due.is("18 a part, owed", x.owes(1, 0), 70);
        due.is("18 owes not so many", x.pay(1, 0, 71), -2);
        due.is("18 owes nothing", x.pay(0, 1, 1), -2);
        x.go(1, 0);
        due.is("18 has not so many", x.pay(1, 0, 21), -2);
        due.is("18 changes nothing", x.owes(1, 0), 70);
        due.is("18 all it has", x.pay(1, 0, 20), 0);
        due.is("18 fifty are owed", x.owes(1, 0), 50);
        x.lend(2, 1, 50);
        due.is("18 all it has and owes", x.pay(1, 0, 50), 0);
        due.is("18 nothing is owed", x.owes(1, 0), 0);
        x.lend(0, 2, 50);
        x.lend(2, 0, 10);
        x.lend(2, 1, 99989);
        due.is("18 ring of the lender", x.of(2, 2), 0);
        x.lend(0, 2, 300);
        due.is("18 nearly full", x.lend(1, 2, 99690), 299);
        due.is("18 more than a ring has", x.pay(1, 2, 299), 0);
        due.is("18 what is more is lost", x.of(2, 2), 99999);
        due.is("18 it is owed no more", x.owes(1, 2), 50 + 99989 - 299);
        int[][] bad = {
            {-1, 1, 5}, {3, 1, 5}, {0, -1, 5}, {0, 3, 5}, {1, 1, 5}, {1, 0, 0}, {1, 0, -1},
            {MIN, 1, 5}, {0, MAX, 5}, {1, 0, MIN}, {1, 0, 100000}, {1, 0, MAX}};
        for (int[] b : bad) {
            due.is("18 bad", x.pay(b[0], b[1], b[2]), -1);
        }
    }

    private static void owes() {
        StepRings x = Due.made("", "ag400,ag400");
        due.is("19 nothing", x.owes(0, 1), 0);
        x.lend(0, 1, 7);
        x.lend(1, 0, 5);
        due.is("19 one", x.owes(1, 0), 7);
        due.is("19 the other", x.owes(0, 1), 5);
        due.is("19 a third comes", x.person(0, 0, 1), 2);
        due.is("19 a third owes nothing", x.owes(2, 0), 0);
        due.is("19 a third is owed nothing", x.owes(1, 2), 0);
        int[][] bad = {{-1, 0}, {3, 0}, {0, -1}, {0, 3}, {0, 0}, {MIN, 0}, {0, MAX}};
        for (int[] b : bad) {
            due.is("19 bad", x.owes(b[0], b[1]), -1);
        }
    }

    private static void monthPays() {
        StepRings x = Due.made("ab10g", "ag400,bg5");
        x.lend(0, 1, 100);
        x.go(1, 0);
        x.go(0, 1);
        due.is("20 paid back", x.month(), 95);
        due.is("20 the rest is owed", x.owes(1, 0), 5);
        state("20 home, as given", x, 0, 400, 0, 0);
        state("20 home, as given too", x, 1, 400, 1, 0);
        due.is("20 paid back the next month", x.month(), 5);
        due.is("20 nothing owed", x.count(4), 0);
        due.is("20 nothing to pay", x.month(), 0);
        due.is("20 spent stays", x.count(5), 20);
    }

    private static void monthPaysByNumbers() {
        // 0 has 5 and owes 1 and 2 four each; 1 owes 2 nine and has what 0 pays; 2 pays last, from all that came
        StepRings x = Due.made("", "ag0,ag4,ag13,ag0");
        x.lend(1, 0, 4);
        x.lend(2, 0, 4);
        x.lend(2, 1, 9);
        x.lend(1, 3, 9);
        x.lend(0, 3, 3);
        x.rule(1);
        for (int kind = 0; kind < 4; kind++) {
            x.given(kind, 0);
        }
        // rings: 0 has 5, 1 has 0, 2 has 0, 3 has 12
        due.is("20 paid", x.month(), 4 + 1 + 4 + 3 + 9);
        due.is("20 0 to 1 first", x.owes(0, 1), 0);
        due.is("20 0 to 2 what is left", x.owes(0, 2), 3);
        due.is("20 1 to 2 what came", x.owes(1, 2), 5);
        due.is("20 3 to 0", x.owes(3, 0), 0);
        due.is("20 3 to 1", x.owes(3, 1), 0);
        int[] rings = {3, 9, 5, 0};
        for (int p = 0; p < 4; p++) {
            due.is("20 ring of " + p, x.of(p, 2), rings[p]);
        }
        // steps that a full ring can't take are paid all the same, and lost
        StepRings y = Due.made("ab5", "ag99999,ag0");
        y.rule(1);
        y.given(0, 9999);
        y.lend(0, 1, 10);
        y.go(1, 1);
        due.is("20 half of it is paid", y.month(), 5);
        due.is("20 a full ring", y.of(0, 2), 99999);
        due.is("20 the other ring", y.of(1, 2), 9999);
        due.is("20 lost ones are paid", y.month(), 5);
        due.is("20 lost ones are owed no more", y.count(4), 0);
        due.is("20 a ring that is full stays so", y.of(0, 2), 99999);
        due.is("20 the other ring then", y.of(1, 2), 9994 + 9999);
    }

    private static void monthOfFullHouse() {
        StepRings x = Due.made("ab1,ab1,ab1,ab1,ab1,ab1,ab1,ab1,ab1,ab1,ab1,ab1,ab1,ab1,ab1,ab1,ab1,ab1,ab1,ab1,ab1,ab1,ab1,ab2",
            "ag9,ag9,ag9,ag9,ag9,ag9,ag9,bg9");
        due.is("15 by the first of 24", x.go(7, 0), 8);
        due.is("15 none with 24", x.go(7, 2), -4);
        x.lend(7, 0, 3);
        x.lend(0, 7, 5);
        due.is("20 the first and the last", x.month(), 8);
        due.is("20 nothing is owed", x.count(4), 0);
        due.is("20 the last one's ring", x.of(7, 2), 400);
        due.is("20 the last one is home", x.of(7, 3), 1);
        due.is("20 all rings", x.count(3), 3200);
    }

    private static void monthByLaw() {
        int[][] want = {{400, 300, 500, 900}, {407, 99999, 550, 99999}, {403, 50299, 525, 50899}};
        for (int law = 0; law < 3; law++) {
            StepRings x = Due.made("", "ag7,bc99999,co50,dp99999");
            x.rule(law);
            x.month();
            for (int p = 0; p < 4; p++) {
                due.is("20 law " + law + ", ring of " + p, x.of(p, 2), want[law][p]);
            }
        }
        StepRings x = Due.made("ab10g", "ag50,ag50");
        x.sheet(0, 1, 2);
        x.go(0, 1);
        x.lend(0, 1, 20);
        x.month();
        x.film(0, 1, 0);
        due.is("20 gates, in and out begin anew", x.lies(0, 1, 0), 0);
        x.item(0, 1, 0, 399);
        x.item(0, 1, 1, 399);
        due.is("20 gates, in and out begin anew, one less", x.lies(0, 1, 0), 3);
    }
}
