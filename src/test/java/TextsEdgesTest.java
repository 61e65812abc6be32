/** Promises 11 to 13: the tape, towns and people as texts, each sentence tried where it ends. */
final class TextsEdgesTest {
    private static final int BAD = Edge.BAD, FULL = Edge.FULL, NONE = Edge.NONE;
    /** Eight times the letter a. */
    private static final long EIGHT = 0x6161616161616161L;

    public static void main(String[] args) {
        lowestBytes();
        highestFirst();
        behindTheTape();
        bytesThatAreTaken();
        bytesThatAreNotLookedAt();
        tapeOf160();
        townOfOneTo24();
        lettersOfTown();
        slopeOfTown();
        lengthOfTown();
        gateOfTown();
        inPlaceOfAllWays();
        town();
        peopleOfOneTo8();
        lettersOfPeople();
        kindsOfPeople();
        ringsOfPeople();
        inPlaceOfThoseTold();
        people();
        firstByteThatCantStand();
        blanks();
        placeItIsFrom();
        theEnd();
        firstByteOfNumber();
        numbersThatWrapAround();
        aFullTapeAsText();
        Edge.end();
    }

    private static void lowestBytes() {
        Edge e = new Edge(11, "The n lowest bytes (1 .. 8) of w,").takesOnly("type(" + EIGHT + ", #)", 1, 8);
        int has = 0;
        for (int n = 1; n <= 8; n++) {
            has += n;
            e.is("type(" + EIGHT + ", " + n + ")", has);
        }
        e.takesOnly("type(" + EIGHT + ", #)", 1, 8);
    }

    private static void highestFirst() {
        new Edge(11, "of these the highest first, come behind THE TAPE: how many it has.").is("type(" + Due.packed("ab5") + ", 3)", 3).is("town()", 1)
            .is("told(0, 0)", 0).is("told(0, 1)", 1).is("told(0, 2)", 5)
            .is("type(" + Due.packed("c+1d,7ab") + ", 8)", 8).is("town()", -24);
    }

    private static void behindTheTape() {
        new Edge(11, "come behind THE TAPE: how many it has.").is("type(97, 1)", 1).is("type(" + Due.packed("b1") + ", 2)", 3).is("type(" + Due.packed("2,cd3") + ", 5)", 8)
            .is("town()", 2).is("told(0, 2)", 12).is("told(1, 0)", 2).is("told(1, 2)", 3).is("type(97, 1)", 1);
    }

    private static void bytesThatAreTaken() {
        Edge e = new Edge(11, "BAD: n, a byte not 32 .. 126;");
        int has = 0;
        for (int at = 0; at < 8; at++) {
            long others = EIGHT & ~(255L << 8 * at);
            for (long wrong : new long[] {0, 31, 127, 128, 160, 225, 255}) {
                e.refuses("type(" + (others | wrong << 8 * at) + ", 8)", BAD);
            }
            for (long right : new long[] {32, 126}) {
                has += 8;
                e.is("type(" + (others | right << 8 * at) + ", 8)", has);
            }
        }
        e.refuses("type(0, 1)", BAD).refuses("type(0, 8)", BAD).refuses("type(-1, 1)", BAD).refuses("type(-1, 8)", BAD)
            .refuses("type(MIN, 8)", BAD).refuses("type(MAX, 8)", BAD).refuses("type(MIN, 1)", BAD).refuses("type(MAX, 1)", BAD);
    }

    private static void bytesThatAreNotLookedAt() {
        Edge e = new Edge(11, "The n lowest bytes (1 .. 8) of w,");
        int has = 0;
        for (int n = 1; n < 8; n++) {
            long above = -1L << 8 * n;
            has += n;
            e.is("type(" + (EIGHT & ~above | above) + ", " + n + ")", has).refuses("type(" + (EIGHT & ~above | above) + ", " + (n + 1) + ")", BAD)
                .refuses("type(" + (EIGHT & ~above) + ", " + (n + 1) + ")", BAD);
        }
    }

    private static void tapeOf160() {
        Edge e = new Edge(11, "FULL: 160.").typed("a".repeat(152)).is("type(" + EIGHT + ", 8)", 160);
        for (int n = 1; n <= 8; n++) {
            e.refuses("type(" + EIGHT + ", " + n + ")", FULL);
        }
        e.is("town()", -21).is("type(97, 1)", 1);
        new Edge(11, "FULL: 160.").typed("a".repeat(153)).refuses("type(" + EIGHT + ", 8)", FULL).is("type(" + EIGHT + ", 7)", 160).refuses("type(97, 1)", FULL);
        new Edge(11, "FULL: 160.").typed("a".repeat(159)).refuses("type(" + EIGHT + ", 2)", FULL).is("type(97, 1)", 160).refuses("type(97, 1)", FULL);
    }

    private static void townOfOneTo24() {
        String most = "ab1" + ",ab2".repeat(22) + ",kl3";
        new Edge(12, "A TOWN is a TEXT: 1 to 24 with , between:").noTown("", -20).town("ab1", 1).is("count(0)", 1).town("ab1,bc2", 2).is("told(1, 2)", 2)
            .town("ab1" + ",ab2".repeat(22), 23).town(most, 24).is("told(23, 2)", 3).is("told(22, 2)", 2).refuses("way(0, 1, 1, 0)", FULL)
            .noTown(most + ",ab1", -20 - 95).noTown(most + ",", -20 - 95).noTown(most + ",x", -20 - 95).noTown(most + "  ,ab1", -20 - 97)
            .noTown(",", -20).noTown(",ab1", -20).noTown("ab1,", -24).noTown("ab1,,ab1", -24).noTown("ab1ab1", -23).noTown("ab1;ab1", -23).noTown("ab1+ab1", -23)
            .noTown("ab1.ab1", -23);
    }

    private static void lettersOfTown() {
        new Edge(12, "a letter a .. l (PLACE),").town("al1", 1).is("told(0, 0)", 0).is("told(0, 1)", 11).town("la1", 1).is("told(0, 0)", 11).is("told(0, 1)", 0)
            .noTown("mb1", -20).noTown("`b1", -20).noTown("Ab1", -20).noTown("1b1", -20).noTown("~b1", -20).noTown("!b1", -20)
            .noTown("am1", -21).noTown("a`1", -21).noTown("aB1", -21).noTown("a11", -21).noTown("a~1", -21).noTown("a!1", -21)
            .noTown("a+1m1", -23).noTown("a+1`1", -23).noTown("a+1L1", -23);
    }

    private static void slopeOfTown() {
        new Edge(12, "perhaps + or - and a digit (SLOPE), a letter,").town("a+9b5,a-9b5,a+0b5,a-0b5,ab5,a+1b5,a-1b5", 7)
            .is("told(0, 3)", 9).is("told(1, 3)", -9).is("told(2, 3)", 0).is("told(3, 3)", 0).is("told(4, 3)", 0).is("told(5, 3)", 1).is("told(6, 3)", -1)
            .noTown("a+b5", -22).noTown("a-b5", -22).noTown("a+/b5", -22).noTown("a+:b5", -22).noTown("a++1b5", -22).noTown("a+-1b5", -22).noTown("a-+1b5", -22)
            .noTown("a+10b5", -23).noTown("a+01b5", -23).noTown("a-99b5", -23).noTown("a1b5", -21).noTown("a*1b5", -21).noTown("a,1b5", -21).noTown("a.1b5", -21)
            .noTown("+1ab5", -20).noTown("ab+15", -22).noTown("ab5+1", -23).noTown("a+", -22).noTown("a+1", -23);
    }

    private static void lengthOfTown() {
        new Edge(12, "a number (LENGTH),").town("ab1,ab99,ab9,ab10,ab01,ab0099", 6).is("told(0, 2)", 1).is("told(1, 2)", 99).is("told(2, 2)", 9).is("told(3, 2)", 10)
            .is("told(4, 2)", 1).is("told(5, 2)", 99)
            .noTown("ab0", -22).noTown("ab00", -22).noTown("ab100", -22).noTown("ab0100", -22).noTown("ab-1", -22).noTown("ab+1", -22).noTown("ab", -22)
            .noTown("abg", -22).noTown("ab,", -22).noTown("ab/", -22).noTown("ab:", -22).noTown("ab1/", -23).noTown("ab1:", -23);
    }

    private static void gateOfTown() {
        new Edge(12, "perhaps g (a GATE):").town("ab1g,ab1,ab99g", 3).is("told(0, 4)", 1).is("told(1, 4)", 0).is("told(2, 4)", 1)
            .noTown("ab1gg", -24).noTown("ab1f", -23).noTown("ab1h", -23).noTown("ab1G", -23).noTown("ab1g1", -24).noTown("ab1ga", -24).noTown("ab1gx", -24);
    }

    private static void inPlaceOfAllWays() {
        new Edge(12, "in place of all WAYS.").town("ab1g" + ",ab1g".repeat(23), 24).after("person(0, 0, 50)", "go(0, 1)", "errand(1)", "image()")
            .town("cd7", 1).is("count(0)", 1).refuses("told(1, 0)", -100001).is("told(0, 4)", 0).is("stops(0, 1)", 0).is("stops(2, 3)", 1).refuses("go(0, 0)", NONE)
            .is("far(0, 2, 3)", 7).is("of(0, 3)", 1).is("of(0, 4)", 1).is("count(2)", 1).is("count(5)", 1).is("way(0, 1, 5, 0)", 1).is("told(1, 4)", 0);
    }

    private static void town() {
        new Edge(12, "THE TAPE, which is empty then, is a TOWN: how many WAYS. A FAULT (those told stay).").town("ab5g,b-2c6", 2).is("type(97, 1)", 1)
            .is("town()", -21).is("type(97, 1)", 1).is("town()", -21).is("town()", -20)
            .noTown("cd7,de8,x", -28).noTown("cd7,de8g,ef9,fg0", -20 - 15).noTown("x", -20)
            .is("count(0)", 2).is("told(0, 2)", 5).is("told(0, 4)", 1).is("told(1, 3)", -2);
        Edge busy = Edge.busy(12, "A FAULT (those told stay).").after("people()");
        busy.noTown("cd7,de8,x", -28).noTown("", -20);
    }

    private static void peopleOfOneTo8() {
        String most = "ag1" + ",bc2".repeat(6) + ",lp3";
        new Edge(13, "PEOPLE are a TEXT: 1 to 8 with , between:").noPeople("", -20).people("ag1", 1).is("count(1)", 1).people("ag1,bg2", 2).is("of(1, 2)", 2)
            .people("ag1" + ",ag2".repeat(6), 7).people(most, 8).is("of(7, 2)", 3).is("of(6, 2)", 2).refuses("person(0, 0, 1)", FULL)
            .noPeople(most + ",ag1", -20 - 31).noPeople(most + ",", -20 - 31).noPeople(most + " ,", -20 - 32).noPeople(most + "x", -20 - 31)
            .noPeople(",", -20).noPeople(",ag1", -20).noPeople("ag1,", -24).noPeople("ag1,,ag1", -24).noPeople("ag1ag1", -23).noPeople("ag1;ag1", -23);
    }

    private static void lettersOfPeople() {
        new Edge(13, "a letter (HOME),").people("ag1,lg1", 2).is("of(0, 0)", 0).is("of(1, 0)", 11).is("of(0, 3)", 0).is("of(1, 3)", 11)
            .noPeople("mg1", -20).noPeople("`g1", -20).noPeople("Ag1", -20).noPeople("1g1", -20).noPeople("+g1", -20)
            // a kind without a home
            .noPeople("o1", -20).noPeople("p1", -20).noPeople("g1", -21).noPeople("c1", -21).noPeople("ag1,o1", -24).noPeople("ag1,p1", -24);
    }

    private static void kindsOfPeople() {
        new Edge(13, "g c o p (KINDS in this order),").people("ag1,ac1,ao1,ap1", 4).is("of(0, 1)", 0).is("of(1, 1)", 1).is("of(2, 1)", 2).is("of(3, 1)", 3)
            .noPeople("aa1", -21).noPeople("af1", -21).noPeople("ah1", -21).noPeople("ab1", -21).noPeople("ad1", -21).noPeople("an1", -21).noPeople("aq1", -21)
            .noPeople("aG1", -21).noPeople("a1", -21).noPeople("a01", -21).noPeople("agc1", -22).noPeople("agg1", -22);
    }

    private static void ringsOfPeople() {
        new Edge(13, "a number (RING):").people("ag0,ag99999,ag00,ag099999,ag1,ag10", 6).is("of(0, 2)", 0).is("of(1, 2)", 99999).is("of(2, 2)", 0).is("of(3, 2)", 99999)
            .is("of(4, 2)", 1).is("of(5, 2)", 10)
            .noPeople("ag100000", -22).noPeople("ag-1", -22).noPeople("ag+1", -22).noPeople("ag", -22).noPeople("ag,", -22).noPeople("ag1g", -23).noPeople("ag/", -22)
            .noPeople("ag:", -22).noPeople("ag1/", -23).noPeople("ag1:", -23);
    }

    private static void inPlaceOfThoseTold() {
        new Edge(13, "in place of those told (nothing is OWED, GATES count 0).").town("ab10g", 1).people("ag50,bg60,ag70", 3)
            .after("lend(0, 1, 20)", "lend(1, 2, 5)", "go(0, 1)", "errand(1)").is("count(4)", 25).is("of(0, 4)", 10)
            .people("bg8,ac9", 2).is("count(1)", 2).is("count(4)", 0).is("owes(0, 1)", 0).is("owes(1, 0)", 0).is("of(0, 4)", 0).is("of(1, 4)", 0).is("of(0, 3)", 1)
            .is("of(0, 2)", 8).is("of(1, 2)", 9).refuses("of(2, 0)", BAD).is("count(0)", 1).is("count(2)", 1).is("count(5)", 10)
            // one that comes later owes nothing of what the one with that number did
            .is("person(0, 0, 7)", 2).is("owes(2, 1)", 0).is("owes(1, 2)", 0).is("of(2, 4)", 0)
            // nothing came or went since these came
            .after("sheet(0, 1, 3)", "film(0, 1, 0)").is("lies(0, 1, 0)", 0).after("item(0, 1, 0, 7)", "item(0, 1, 1, 8)", "item(0, 1, 2, 6)").is("lies(0, 1, 0)", 7)
            .is("month()", 0);
    }

    private static void people() {
        new Edge(13, "THE TAPE, which is empty then, is PEOPLE: how many. A FAULT (those told stay).").town("ab10g", 1).people("ag50,bc60", 2)
            .after("go(0, 1)", "lend(0, 1, 5)").is("type(97, 1)", 1).is("people()", -21).is("type(97, 1)", 1).is("people()", -21).is("people()", -20)
            .noPeople("cg7,dg8,x", -28).noPeople("x", -20).noPeople("cg7,dg8,ep100000", -30)
            .is("count(1)", 2).is("of(0, 2)", 35).is("of(0, 3)", 1).is("of(0, 4)", 10).is("owes(1, 0)", 5);
        Edge busy = Edge.busy(13, "A FAULT (those told stay).").after("people()");
        busy.noPeople("cg7,dg8,x", -28).noPeople("", -20);
    }

    private static void firstByteThatCantStand() {
        // of several faults the first; each place of a text in turn
        Edge e = new Edge(12, "FAULTS: -20 less the place of the first byte").after("way(0, 1, 5, 0)", "person(0, 0, 5)");
        String town = "a+3b20g,b-2c15,cd9";
        for (int i = 0; i < town.length(); i++) {
            e.noTown(town.substring(0, i) + "!" + town.substring(i), -20 - i).noTown(town.substring(0, i) + "!!!x", -20 - i);
        }
        String people = "ag400,bc99999,co5";
        for (int i = 0; i < people.length(); i++) {
            e.noPeople(people.substring(0, i) + "!" + people.substring(i), -20 - i).noPeople(people.substring(0, i) + "!!!x", -20 - i);
        }
    }

    private static void blanks() {
        new Edge(12, "(blanks do not count, but end a number) that can't stand there").town(" a + 3 b 20 g , b - 2 c 15 ", 2).is("told(0, 3)", 3).is("told(0, 2)", 20)
            .is("told(0, 4)", 1).is("told(1, 3)", -2).is("told(1, 2)", 15).town("   ab5", 1).town("ab5   ", 1).town("ab5 ,  cd6", 2)
            .noTown("ab2 0", -24).noTown("ab 2 0g", -25).noTown("ab2  0", -25).noTown("a + 1 0 b5", -26).noTown("  x", -22).noTown("a  x", -23).noTown("ab5 x", -24)
            .noTown("ab5 gx", -25).noTown("ab5 g x", -26)
            .people(" a g 5 , b c 60 ", 2).is("of(0, 2)", 5).is("of(1, 2)", 60).noPeople("ag5 5", -24).noPeople("ag 5 5", -25).noPeople("ag5  5", -25)
            .noPeople(" x", -21).noPeople("a  x", -23).noPeople("ag5 x", -24);
    }

    private static void placeItIsFrom() {
        Edge e = new Edge(12, "(a WAY to the PLACE it is from, too;").after("way(0, 1, 5, 0)");
        for (char c = 'a'; c <= 'l'; c++) {
            e.noTown("" + c + c + "5", -21).noTown(c + "+1" + c + "5", -23);
        }
        e.noTown("ab5,bb5", -25).noTown("ab5,b b5", -26).noTown("ll0", -21).town("ab5,ba5", 2);
    }

    private static void theEnd() {
        Edge e = new Edge(12, "the end: how many bytes there are);").after("way(0, 1, 5, 0)", "person(0, 0, 5)");
        e.noTown("", -20).noTown(" ", -21).noTown("   ", -23).noTown("a", -21).noTown("a ", -22).noTown("a+", -22).noTown("a+ ", -23).noTown("a+1", -23)
            .noTown("a+1 ", -24).noTown("a+1b", -24).noTown("ab", -22).noTown("ab  ", -24).noTown("ab5,", -24).noTown("ab5, ", -25).noTown("ab5,c", -25)
            .noPeople("", -20).noPeople(" ", -21).noPeople("a", -21).noPeople("a  ", -23).noPeople("ag", -22).noPeople("ag ", -23).noPeople("ag5,", -24)
            .noPeople("ag5, ", -25).noPeople("ag5,b", -25).noPeople("ag5,bg", -26);
    }

    private static void firstByteOfNumber() {
        new Edge(12, "of a number that may not be its first byte.").after("way(0, 1, 5, 0)", "person(0, 0, 5)")
            .noTown("ab0", -22).noTown("ab000", -22).noTown("ab100", -22).noTown("ab999", -22).noTown("ab 100", -23).noTown("ab5,cd100", -26).noTown("ab100x", -22)
            .noTown("ab0g", -22).noTown("a+9b100g", -24).noTown("ab100,", -22)
            .noPeople("ag100000", -22).noPeople("ag999999", -22).noPeople("ag  100000", -24).noPeople("ag5,bc100000", -26).noPeople("ag100000x", -22);
    }

    /** Numbers whose lowest bits alone would be fine. */
    private static void numbersThatWrapAround() {
        new Edge(12, "of a number that may not be its first byte.").after("way(0, 1, 5, 0)")
            .noTown("ab2147483647", -22).noTown("ab2147483648", -22).noTown("ab2147483649", -22).noTown("ab4294967296", -22).noTown("ab4294967297", -22)
            .noTown("ab18446744073709551617", -22).noTown("ab" + "9".repeat(150), -22).noTown("ab1" + "0".repeat(150), -22).town("ab" + "0".repeat(150) + "1", 1);
        new Edge(13, "of a number that may not be its first byte.").after("person(0, 0, 5)")
            .noPeople("ag2147483648", -22).noPeople("ag4294967296", -22).noPeople("ag4294967301", -22).noPeople("ag18446744073709551617", -22)
            .noPeople("ag" + "9".repeat(158), -22).noPeople("ag1" + "0".repeat(157), -22).people("ag" + "0".repeat(157) + "7", 1).is("of(0, 2)", 7);
    }

    private static void aFullTapeAsText() {
        String most = "ab1" + ",ab2".repeat(23);
        new Edge(12, "THE TAPE, which is empty then, is a TOWN: how many WAYS.").town(" ".repeat(65) + most, 24).town(most + " ".repeat(65), 24)
            .noTown(" ".repeat(160), -180).noTown(" ".repeat(159) + "x", -179).noTown(" ".repeat(159) + "a", -180).noTown(" ".repeat(156) + "ab5,", -180);
        new Edge(13, "THE TAPE, which is empty then, is PEOPLE: how many.").people(" ".repeat(157) + "ag5", 1).people("ag5" + " ".repeat(157), 1)
            .noPeople(" ".repeat(160), -180).noPeople(" ".repeat(159) + "x", -179).noPeople(" ".repeat(156) + "ag5,", -180);
    }
}
