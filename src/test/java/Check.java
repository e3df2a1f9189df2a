/** Compares answers with those that are due, and ends a test with exit code 1 if one was wrong. */
final class Check {
    static final int LEAST = Integer.MIN_VALUE;
    static final int MOST = Integer.MAX_VALUE;

    private String sentence = "";
    private int sentences = 0;
    private int checksOfSentence = 0;
    private int checks = 0;
    private int wrong = 0;

    /** What follows is about a sentence of the document, which is told with each wrong answer. */
    void about(String next) {
        endSentence();
        sentence = next;
        sentences++;
        checksOfSentence = 0;
    }

    private void endSentence() {
        if (sentences > 0 && checksOfSentence == 0) {
            wrong++;
            System.out.println("[" + sentence + "] has no check");
        }
    }

    void due(String what, long got, long want) {
        checks++;
        checksOfSentence++;
        if (got != want) {
            wrong++;
            if (wrong <= 20) {
                System.out.println("[" + sentence + "] " + what + " answered " + got + ", due is " + want);
            }
        }
    }

    void due(String what, boolean holds) {
        due(what, holds ? 1 : 0, 1);
    }

    void due(String what, String got, String want) {
        String plain = want.replace(" ", "");
        due(what + ": " + got + " (due is " + plain + ")", got.equals(plain));
    }

    boolean isClean() {
        return wrong == 0;
    }

    void end() {
        endSentence();
        System.out.println(sentences + " sentences, " + checks + " checks, " + wrong + " wrong");
        if (wrong != 0 || checks == 0) {
            System.exit(1);
        }
    }
}
