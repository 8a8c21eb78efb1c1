import java.util.function.IntToLongFunction;

/** What all tests of the project share: an answer is compared, told if it is wrong, and counted. */
final class Check {
    private static int wrong = 0;
    private static String sentence = "";

    private Check() {
    }

    /** The document's own words that the checks from here on hold the class to. */
    static void sentence(String words) {
        sentence = words;
    }

    static void due(String call, long got, long want) {
        if (got != want) {
            wrong++;
            String ahead = sentence.isEmpty() ? "" : "\"" + sentence + "\": ";
            System.out.println(ahead + call + " answered " + got + ", due is " + want);
        }
    }

    static void holds(String what, boolean so) {
        due(what, so ? 1 : 0, 1);
    }

    /** All numbers from the least to the greatest are taken; the nearest beyond, and far ones, are refused. */
    static void range(String call, int least, int greatest, long refusal, IntToLongFunction answer) {
        for (int within = least; within <= greatest; within++) {
            holds(call + " of " + within + " is not refused", answer.applyAsLong(within) != refusal);
        }
        for (int beyond : beyond(least, greatest)) {
            due(call + " of " + beyond, answer.applyAsLong(beyond), refusal);
        }
    }

    /** Numbers that a byte, a char or a shift would wrap around into the range are among them. */
    static int[] beyond(int least, int greatest) {
        return new int[] {least - 1, greatest + 1, least - 256, greatest + 256, greatest + 65536, least - 65536,
            Integer.MIN_VALUE, Integer.MIN_VALUE + least, Integer.MAX_VALUE};
    }

    static int wrongSoFar() {
        return wrong;
    }

    static void end(String test) {
        System.out.println(test + ": " + (wrong == 0 ? "all as due" : wrong + " not as due"));
        if (wrong != 0) {
            System.exit(1);
        }
    }
}
