/** Counts the answers that are not as due, and ends a test with them. */
final class Due {
    /** What asks for the answers that a sentence of the document promises. */
    interface Test {
        void ask(Due due);
    }

    private String sentence = "";
    private int sentences;
    private int asked;
    private int wrong;

    /** Tests one sentence of the document; what goes wrong there leaves the others their tests. */
    void sentence(String words, Test test) {
        sentence = "\"" + words + "\": ";
        sentences++;
        int before = asked;
        try {
            test.ask(this);
        } catch (RuntimeException e) {
            wrong++;
            System.out.println(sentence + e);
        }
        // A boundary has two sides, so less than two answers can't have tested it.
        yes("both sides were asked for", asked >= before + 2);
        sentence = "";
    }

    void is(String what, long got, long want) {
        asked++;
        if (got != want) {
            wrong++;
            System.out.println(sentence + what + ": answered " + got + ", due is " + want);
        }
    }

    void yes(String what, boolean got) {
        is(what, got ? 1 : 0, 1);
    }

    void no(String what, boolean got) {
        is(what, got ? 1 : 0, 0);
    }

    int wrong() {
        return wrong;
    }

    void end() {
        String of = sentences > 0 ? sentences + " sentences, " : "";
        System.out.println(of + asked + " answers, " + wrong + " of them not as due");
        if (wrong != 0 || asked == 0) {
            System.exit(1);
        }
    }
}
