/** What the tests share: counts answers, prints those that are not due. */
final class Check {
    static final long BAD = Long.MIN_VALUE + 2;
    static final long NOT = Long.MIN_VALUE + 3;

    private static int right = 0;
    private static int wrong = 0;
    private static String sentence = "";
    private static int rightBefore = 0;

    private Check() {
    }

    /** From here on answers belong to this sentence of the document; each has to have some. */
    static void says(String promise, String words) {
        endSentence();
        sentence = promise + " \"" + words + "\": ";
    }

    private static void endSentence() {
        if (!sentence.isEmpty() && right == rightBefore) {
            wrong++;
            System.out.println(sentence + "no answer was as due");
        }
        rightBefore = right;
        sentence = "";
    }

    static void due(String what, long got, long want) {
        if (got == want) {
            right++;
        } else {
            wrong++;
            System.out.println(sentence + what + " answered " + got + ", due is " + want);
        }
    }

    /** Of a call whose last argument tells which part of a FRACTION. */
    static void fraction(String what, long above, long below, long wantAbove, long wantBelow) {
        due(what + " above", above, wantAbove);
        due(what + " below", below, wantBelow);
    }

    static void holds(String what, boolean so) {
        due(what, so ? 1 : 0, 1);
    }

    static OneTriangle typed(String text) {
        OneTriangle made = new OneTriangle();
        type(made, text);
        return made;
    }

    static void type(OneTriangle into, String text) {
        for (int i = 0; i < text.length(); i++) {
            into.type(text.charAt(i));
        }
    }

    static int faultOf(String text) {
        return typed(text).fault();
    }

    static void close() {
        endSentence();
        System.out.println(right + " answers as due, " + wrong + " not");
        if (wrong != 0 || right == 0) {
            System.exit(1);
        }
    }
}
