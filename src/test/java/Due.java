/** Prints what is not as due, and counts it. */
final class Due {
    private int wrong = 0;
    private int asked = 0;

    void is(String call, long got, long want) {
        asked++;
        if (got != want) {
            wrong++;
            System.out.println(call + " answered " + got + ", due is " + want);
        }
    }

    void holds(String what, boolean is) {
        is(what, is ? 1 : 0, 1);
    }

    void end() {
        System.out.println(wrong == 0 ? asked + " answers are as due" : wrong + " of " + asked + " answers are not as due");
        if (wrong != 0) {
            System.exit(1);
        }
    }

    /** Types a text, eight bytes at a time: what the last call answered. */
    static int type(StepRings x, String text) {
        int answer = 0;
        for (int i = 0; i < text.length(); i += 8) {
            int n = Math.min(8, text.length() - i);
            answer = x.type(packed(text.substring(i, i + n)), n);
        }
        return answer;
    }

    static long packed(String text) {
        long w = 0;
        for (int i = 0; i < text.length(); i++) {
            w = w << 8 | text.charAt(i);
        }
        return w;
    }

    static int town(StepRings x, String text) {
        type(x, text);
        return x.town();
    }

    static int people(StepRings x, String text) {
        type(x, text);
        return x.people();
    }

    static StepRings made(String town, String people) {
        StepRings x = new StepRings();
        if (!town.isEmpty() && town(x, town) < 0) {
            throw new IllegalStateException("no town: " + town);
        }
        if (!people.isEmpty() && people(x, people) < 0) {
            throw new IllegalStateException("no people: " + people);
        }
        return x;
    }
}
