/** Counts the answers that are not the ones due; a test ends with exit code 1 if there was one. */
final class Due {
    private static int checked = 0;
    private static int wrong = 0;
    private static String sentence = "";

    private Due() {
    }

    /** The document's words that the checks behind this one are about; they are printed with what fails. */
    static void says(String words) {
        sentence = "[" + words + "] ";
    }

    static void is(String call, long got, long want) {
        checked++;
        if (got != want) {
            wrong++;
            System.out.println(sentence + call + " answered " + got + ", due is " + want);
        }
    }

    static void isTrue(String what, boolean holds) {
        checked++;
        if (!holds) {
            wrong++;
            System.out.println(sentence + what + " does not hold");
        }
    }

    static void end() {
        System.out.println(checked + " answers checked, " + wrong + " not as due");
        if (wrong != 0 || checked == 0) {
            System.exit(1);
        }
    }
}
