import java.util.function.Supplier;

/** All that calls can tell of an object, as a text. Looking uses the object up, so each part has one of its own. */
final class Seen {
    /** Rings against which the items of sheets are held. */
    private static final int[] RINGS = {0, 1, 5, 7, 8, 10, 26, 50, 51, 100, 300, 301, 400, 500, 900, 1000, 99999};
    private static final int PARTS = 9;
    /** Farther than any sum of what was lent in the tests. */
    private static final int FAR_OFF = 1 << 27;

    private final StepRings x;
    private final StringBuilder text;

    private Seen(StepRings x, StringBuilder text) {
        this.x = x;
        this.text = text;
    }

    static String of(Supplier<StepRings> made) {
        StringBuilder text = new StringBuilder();
        for (int part = 0; part < PARTS + RINGS.length; part++) {
            new Seen(made.get(), text).look(part);
        }
        return text.toString();
    }

    private void look(int part) {
        switch (part) {
            case 0: plain(""); break;
            case 1: costs(); break;
            case 2: distances(); break;
            case 3: tell("restored", x.restore()); plain("restored, "); break;
            case 4: tell("restored", x.restore()); liars("restored, "); laws("restored, "); errands("restored, "); break;
            case 5: liars(""); laws(""); break;
            case 6: tell("the tape", x.type(' ', 1)); tell("town", x.town()); plain("town, "); break;
            case 7: tell("people", x.people()); plain("people, "); break;
            case 8: errands(""); tell("month", x.month()); plain("month, "); break;
            default: items(RINGS[part - PARTS]); break;
        }
    }

    private void tell(String what, long answer) {
        text.append(what).append(": ").append(answer).append('\n');
    }

    private void plain(String when) {
        for (int what = 0; what < 6; what++) {
            tell(when + "count(" + what + ")", x.count(what));
        }
        int ways = x.count(0), people = x.count(1);
        for (int way = 0; way < ways; way++) {
            for (int what = 0; what < 5; what++) {
                tell(when + "told(" + way + ", " + what + ")", x.told(way, what));
            }
        }
        for (int p = 0; p < people; p++) {
            for (int what = 0; what < 5; what++) {
                tell(when + "of(" + p + ", " + what + ")", x.of(p, what));
            }
            for (int q = 0; q < people; q++) {
                tell(when + "owes(" + p + ", " + q + ")", x.owes(p, q));
            }
        }
    }

    private void costs() {
        int ways = x.count(0), people = x.count(1);
        for (int p = 0; p < people; p++) {
            for (int way = 0; way < ways; way++) {
                tell("costs(" + p + ", " + way + ", 0)", x.costs(p, way, 0));
                tell("costs(" + p + ", " + way + ", 1)", x.costs(p, way, 1));
            }
        }
    }

    private void distances() {
        int last = x.count(1) - 1;
        for (int a = 0; a < 12; a++) {
            for (int b = 0; b < 12; b++) {
                tell("far(0, " + a + ", " + b + ")", x.far(0, a, b));
                tell("far(" + last + ", " + a + ", " + b + ")", x.far(last, a, b));
            }
        }
    }

    private void laws(String when) {
        for (int kind = 0; kind < 4; kind++) {
            tell(when + "given(" + kind + ", 0)", x.given(kind, 0));
        }
        tell(when + "rule(0)", x.rule(0));
    }

    private void errands(String when) {
        int people = x.count(1);
        for (int p = 0; p < people; p++) {
            for (int i = -1; i < 6; i++) {
                tell(when + "tour(" + p + ", " + i + ")", x.tour(p, i));
            }
            tell(when + "parted(" + (1 << p) + ")", x.parted(1 << p));
        }
    }

    /** From which told ring on each one lies no more: what gates count, and what came and went. */
    private void liars(String when) {
        int people = x.count(1);
        int[] least = new int[people];
        for (int p = 0; p < people; p++) {
            least[p] = -FAR_OFF;
        }
        x.sheet(3, 2, people);
        for (int half = FAR_OFF; half > 0; half /= 2) {
            for (int p = 0; p < people; p++) {
                x.item(3, 2, p, least[p] + half - 1);
            }
            int set = x.lies(3, 2, 0);
            for (int p = 0; p < people; p++) {
                least[p] += (set >> p & 1) != 0 ? half : 0;
            }
        }
        for (int p = 0; p < people; p++) {
            tell(when + "no lie of " + p + " from", least[p]);
        }
    }

    /** Which items are below a ring, told by one alone who has it. */
    private void items(int ring) {
        x.people();
        String one = "ag" + ring;
        x.type(Due.packed(one), one.length());
        x.people();
        for (int sheet = 0; sheet < 4; sheet++) {
            for (int lane = 0; lane < 3; lane++) {
                for (int i = 0; i < 24; i++) {
                    tell("lies(" + sheet + ", " + lane + ", " + i + ") with " + ring, x.lies(sheet, lane, i));
                }
            }
            tell("drop(" + sheet + ")", x.drop(sheet));
        }
    }
}
