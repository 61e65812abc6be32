import java.util.ArrayList;
import java.util.List;

/**
 * One sentence of the document, tried where it ends: calls on one new object, each with the answer that is due.
 *
 * The calls are kept, so that the same object can be made again: a refused call is looked at on two like ones,
 * of which one was called, and all that can be told of them must be alike.
 */
final class Edge {
    // written out, so that another number in the class is seen
    static final int BAD = -1, NOT = -2, FULL = -3, NONE = -4, NULL = -11, CAST = -12, INDEX = -13, SIZE = -14;
    /** The document's: later answers are free. */
    private static final int MOST_CALLS = 512;

    private static int asked;
    private static int wrong;

    private final String head;
    private final List<Call> script = new ArrayList<>();
    private final StepRings x = new StepRings();
    /** All that can be told of the object as it is now, or null where nobody has looked yet. */
    private String seen;

    Edge(int promise, String sentence) {
        head = "promise " + promise + ", '" + sentence + "': ";
    }

    /** Something of all, so that whatever a refused call changes is seen. */
    static Edge busy(int promise, String sentence) {
        return new Edge(promise, sentence)
            .town("a+3b20g,b-2c15,cd9,da30g,ac50,ef5,f+1g7g", 7).people("ag400,bc300,co500,dp900,eg99999,lg0", 6)
            .after("errand(2)", "errand(0)", "errand(4)", "given(1, 77)", "rule(2)", "lend(0, 1, 40)", "go(0, 1)", "image()")
            .after("way(6, 7, 3, 0)", "gate(2, true)", "go(3, 0)", "lend(3, 2, 100)", "pay(1, 0, 15)", "errand(3)", "given(3, 5)", "rule(1)")
            .after("person(0, 0, 25)", "sheet(0, 0, 5)", "item(0, 0, 0, 7)", "item(0, 0, 4, 300)", "sheet(1, 1, 24)", "film(1, 1, 3)")
            .after("sheet(2, 2, 3)", "item(2, 2, 1, 50)").typed("ag7,bc8");
    }

    /** As much of all as there may be. */
    static Edge full(int promise, String sentence) {
        return new Edge(promise, sentence)
            .town("ab1" + ",ab1".repeat(23), 24).people("ag9" + ",ag9".repeat(7), 8)
            .after("errand(0)", "errand(1)", "errand(0)", "errand(1)", "errand(0)", "errand(1)", "lend(0, 7, 5)", "go(7, 1)", "image()")
            .typed("ag7,bc8" + " ".repeat(153));
    }

    /** Makes a call, whose answer is due. */
    Edge is(String call, long want) {
        same(head + call, run(Call.parsed(call)), want);
        return this;
    }

    /** Makes calls that only lead to where the sentence is tried; none of them is refused. */
    Edge after(String... calls) {
        for (String call : calls) {
            int got = run(Call.parsed(call));
            if (got < 0) {
                same(head + call + " is not refused", got, 0);
            }
        }
        return this;
    }

    Edge typed(String text) {
        for (Call call : typing(text)) {
            int got = run(call);
            if (got < 0) {
                same(head + "typing \"" + text + "\" is not refused", got, 0);
            }
        }
        return this;
    }

    Edge town(String text, int want) {
        return typed(text).answers("town()", text, want);
    }

    Edge people(String text, int want) {
        return typed(text).answers("people()", text, want);
    }

    private Edge answers(String call, String text, int want) {
        same(head + call + " of \"" + text + "\"", run(Call.parsed(call)), want);
        return this;
    }

    /** A call that is refused, and changes nothing. */
    Edge refuses(String call, int want) {
        return changesNothing(call, List.of(Call.parsed(call)), want);
    }

    /** A text that is no town; the tape is empty before and then. */
    Edge noTown(String text, int want) {
        return fault("town()", text, want);
    }

    /** A text that is no people; the tape is empty before and then. */
    Edge noPeople(String text, int want) {
        return fault("people()", text, want);
    }

    private Edge fault(String call, String text, int want) {
        List<Call> calls = typing(text);
        calls.add(Call.parsed(call));
        return changesNothing(call + " of \"" + text + "\"", calls, want);
    }

    private Edge changesNothing(String what, List<Call> calls, int want) {
        same(head + what, all(calls, again()), want);
        if (seen == null) {
            seen = Seen.of(this::again);
        }
        String then = Seen.of(() -> {
            StepRings y = again();
            all(calls, y);
            return y;
        });
        asked++;
        if (!then.equals(seen)) {
            wrong++;
            System.out.println(head + what + " changes what is told: " + difference(seen, then));
        }
        return this;
    }

    /** The same call with each of these numbers in place of #. */
    Edge refusesEach(String call, int want, int... numbers) {
        for (int n : numbers) {
            refuses(call.replace("#", String.valueOf(n)), want);
        }
        return this;
    }

    /** One below and one above what is taken, and the ends of int. */
    Edge takesOnly(String call, int least, int most) {
        return refusesEach(call, BAD, least - 1, most + 1, Integer.MIN_VALUE, Integer.MIN_VALUE + 1, Integer.MAX_VALUE - 1, Integer.MAX_VALUE);
    }

    static void same(String what, long got, long want) {
        asked++;
        if (got != want) {
            wrong++;
            System.out.println(what + " answered " + got + ", due is " + want);
        }
    }

    static void end() {
        System.out.println(wrong == 0 ? asked + " answers are as due" : wrong + " of " + asked + " answers are not as due");
        if (wrong != 0) {
            System.exit(1);
        }
    }

    private int run(Call call) {
        script.add(call);
        seen = null;
        if (script.size() > MOST_CALLS) {
            throw new IllegalStateException(head + "more calls than the document promises");
        }
        return call.on(x);
    }

    private StepRings again() {
        StepRings y = new StepRings();
        all(script, y);
        return y;
    }

    /** What the last of these calls answers. */
    private static int all(List<Call> calls, StepRings y) {
        int answer = 0;
        for (Call call : calls) {
            answer = call.on(y);
        }
        return answer;
    }

    private static List<Call> typing(String text) {
        List<Call> calls = new ArrayList<>();
        for (int i = 0; i < text.length(); i += 8) {
            int n = Math.min(8, text.length() - i);
            calls.add(Call.parsed("type(" + Due.packed(text.substring(i, i + n)) + ", " + n + ")"));
        }
        return calls;
    }

    private static String difference(String a, String b) {
        String[] as = a.split("\n"), bs = b.split("\n");
        for (int i = 0; i < Math.min(as.length, bs.length); i++) {
            if (!as[i].equals(bs[i])) {
                return as[i] + " is then " + bs[i];
            }
        }
        return "more or less is told";
    }
}
