/** Prints every answer that is not the one that is due, and ends the run with exit code 1 if there was one. */
final class Check {
    private static int looked = 0;
    private static int wrong = 0;
    private static String sentence = "";

    private Check() {
    }

    /** What follows tests this sentence of the document; wrong answers are printed with it. */
    static void sentence(String next) {
        sentence = "[" + next + "] ";
    }

    static void due(String what, Object got, Object want) {
        looked++;
        if (!want.equals(got)) {
            wrong++;
            System.out.println(sentence + what + " answered " + got + ", due is " + want);
        }
    }

    static void end() {
        System.out.println(looked + " answers, " + wrong + " of them wrong");
        if (wrong != 0 || looked == 0) {
            System.exit(1);
        }
    }
}
