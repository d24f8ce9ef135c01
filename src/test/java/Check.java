/** Counts and prints the answers that are not as due; every test of the project ends with end(). */
final class Check {
    private static int wrong = 0;
    private static int looked = 0;
    private static String quoted = "";
    private static int lookedBefore = 0;

    private Check() {
    }

    /** The sentence of the document, with the heading it stands under, that the next answers are about. */
    static void sentence(String heading, String words) {
        leaveSentence();
        quoted = heading + ": " + words;
        lookedBefore = looked;
    }

    static void due(String call, long got, long want) {
        looked++;
        if (got != want) {
            wrong++;
            System.out.println(call + " answered " + got + ", due is " + want);
            if (!quoted.isEmpty()) {
                System.out.println("    where the document says: " + quoted);
            }
        }
    }

    static void due(String call, boolean got, boolean want) {
        due(call, got ? 1 : 0, want ? 1 : 0);
    }

    static void end() {
        leaveSentence();
        System.out.println(looked + " answers looked at, " + wrong + " not as due");
        if (wrong != 0 || looked == 0) {
            System.exit(1);
        }
    }

    private static void leaveSentence() {
        if (!quoted.isEmpty() && looked == lookedBefore) {
            wrong++;
            System.out.println("no answer was looked at for: " + quoted);
        }
    }
}
