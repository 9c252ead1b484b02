import java.util.function.ToLongFunction;

/** What the tests share: a test for each sentence, and asking for the answer that is due. */
final class Due {
    private static int asked = 0;
    private static int wrong = 0;
    private static String sentence = "";

    private Due() {
    }

    /** A test of its own for words of the document; what it throws counts as a wrong answer. */
    static void sentence(String words, Runnable test) {
        sentence = words;
        int before = asked;
        try {
            test.run();
        } catch (RuntimeException e) {
            report("threw " + e);
        }
        if (asked == before) {
            report("asked for nothing");
        }
        sentence = "";
    }

    static void is(String what, long due, long got) {
        asked++;
        if (due != got) {
            report(what + " answered " + got + ", due is " + due);
        }
    }

    static void is(String what, boolean due, boolean got) {
        is(what, due ? 1 : 0, got ? 1 : 0);
    }

    static void is(String what, String due, String got) {
        asked++;
        if (!due.equals(got)) {
            report(what + " answered " + got + ", due is " + due);
        }
    }

    /** The place's number, in radix 10. */
    static void holds(String what, String due, Desk desk, int place) {
        is(what, due, desk.number(place));
    }

    /** The call's answer (a boolean counts 1 or 0), and places, text and tape as they were. */
    static void changesNothing(String what, long due, Desk desk, ToLongFunction<Desk> call) {
        String before = desk.state();
        is(what, due, call.applyAsLong(desk));
        is("the state after " + what, before, desk.state());
    }

    static void refuses(String what, Desk desk, ToLongFunction<Desk> call) {
        changesNothing(what, FractionDesk.NONE, desk, call);
    }

    static void finish() {
        System.out.println(asked + " answers, " + wrong + " of them wrong");
        if (wrong != 0 || asked == 0) {
            System.exit(1);
        }
    }

    private static void report(String what) {
        wrong++;
        System.out.println((sentence.isEmpty() ? "" : "[" + sentence + "] ") + what);
    }
}
