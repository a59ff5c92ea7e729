/** Runs a test for each sentence of the document, and tells which sentences do not hold. */
public final class Sentences {
    private static String sentence = "";
    private static int tested = 0;
    private static int broken = 0;
    private static boolean holds = true;

    private Sentences() {
    }

    /** One sentence, in the document's words, with the test of its own. */
    public static void holds(String words, Runnable test) {
        sentence = words;
        holds = true;
        // A test that breaks off must not keep the sentences after it from being tested.
        try {
            test.run();
        } catch (RuntimeException | Error e) {
            wrong("threw " + e);
        }
        tested++;
        if (!holds) broken++;
    }

    public static void wrong(String what) {
        holds = false;
        System.out.println("[" + sentence + "] " + what);
    }

    public static void same(String what, Object got, Object want) {
        if (!got.equals(want)) wrong(what + " is " + got + ", due is " + want);
    }

    public static void finish() {
        System.out.println(tested + " sentences tested, " + broken + " broken");
        if (broken != 0) System.exit(1);
    }
}
