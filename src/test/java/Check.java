/** Counts the answers that are not the ones that are due. */
final class Check {
    private static int wrong = 0;
    private static int answers = 0;
    private static String sentence = "";
    private static int answersBefore = 0;

    private Check() {
    }

    /** What comes now tests this sentence of the document; a sentence without a test counts as a wrong answer. */
    static void sentence(String words) {
        endSentence();
        sentence = words;
        answersBefore = answers;
    }

    private static void endSentence() {
        if (!sentence.isEmpty() && answers == answersBefore) {
            wrong++;
            System.out.println("no test of '" + sentence + "'");
        }
    }

    static void due(String what, long got, long want) {
        answers++;
        if (got != want) {
            wrong++;
            String words = sentence.isEmpty() ? "" : "'" + sentence + "': ";
            System.out.println(words + what + " answered " + got + ", due is " + want);
        }
    }

    static void due(String what, boolean got, boolean want) {
        due(what, got ? 1 : 0, want ? 1 : 0);
    }

    static void end() {
        endSentence();
        System.out.println(wrong == 0 ? "all answers are as due" : wrong + " answers are not as due");
        if (wrong != 0) {
            System.exit(1);
        }
    }
}
