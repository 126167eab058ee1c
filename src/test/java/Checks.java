/**
 * What the tests by hand share: what is due, what is refused, and the count of what was wrong.
 * They extend it to have its names, as a class without a package can't be imported.
 */
abstract class Checks {
    static final int NONE = CursorKeep.NONE;
    static final int FAR = Integer.MAX_VALUE;
    static final int LOW = Integer.MIN_VALUE;

    private static int looked = 0;
    private static int wrong = 0;
    private static String sentence = "";

    /** The sentence of the document that the following checks are about. */
    static void sentence(String words) {
        sentence = words;
    }

    static void due(String what, Object got, Object want) {
        looked++;
        if (!number(got).equals(number(want))) {
            wrong++;
            System.out.println((sentence.isEmpty() ? "" : "'" + sentence + "': ") + what + ": " + got
                    + ", due is " + want + ", lines" + lines());
        }
    }

    /** Letters are compared by their numbers, as a test may well give either. */
    private static Object number(Object answer) {
        return answer instanceof Character c ? Integer.valueOf(c) : answer;
    }

    private static String lines() {
        StringBuilder lines = new StringBuilder();
        StackTraceElement[] at = new Throwable().getStackTrace();
        for (int i = 2; i < Math.min(6, at.length); i++) {
            lines.append(' ').append(at[i].getFileName()).append(':').append(at[i].getLineNumber());
        }
        return lines.toString();
    }

    /** What a text shows, by letter() and by letterAnew(); it costs the object itself no calls. */
    static void shows(Keep k, int text, String want) {
        Keep shown = k.twin();
        Keep anew = k.twin();
        due("length of '" + want + "'", shown.length(text), want.length());
        due("length of '" + want + "'", anew.length(text), want.length());
        for (int i = 0; i < want.length(); i++) {
            due("letter " + i + " of '" + want + "'", shown.letter(text, i), want.charAt(i));
            due("letterAnew " + i + " of '" + want + "'", anew.letterAnew(text, i), want.charAt(i));
        }
    }

    /** The answer of a call that is made to a twin, so that the object itself stays as it is. */
    static void answers(String what, Keep k, Keep.Call call, Object want) {
        Object got;
        try {
            got = k.twin().made(call);
        } catch (RuntimeException e) {
            got = e;
        }
        due(what, got, want);
    }

    static void outside(Keep k, Keep.Call call) {
        refused(k, call, IndexOutOfBoundsException.class);
    }

    static void illegal(Keep k, Keep.Call call) {
        refused(k, call, IllegalArgumentException.class);
    }

    static void stateless(Keep k, Keep.Call call) {
        refused(k, call, IllegalStateException.class);
    }

    /** A refused call throws just this, by itself, and leaves nothing that differs. */
    private static void refused(Keep k, Keep.Call call, Class<?> want) {
        for (int view = 0; view < Probe.VIEWS; view++) {
            Keep after = k.twin();
            due("thrown", thrownBy(after, call), want);
            Keep before = k.twin();
            // So that both have as many calls left.
            before.queued();
            due("view " + view + " after a refusal", Probe.view(after, view), Probe.view(before, view));
        }
    }

    private static Object thrownBy(Keep k, Keep.Call call) {
        try {
            return k.made(call);
        } catch (RuntimeException e) {
            StackTraceElement[] at = e.getStackTrace();
            boolean itself = at.length > 0 && at[0].getClassName().startsWith("CursorKeep");
            return itself ? e.getClass() : "by the machine or its library: " + e;
        }
    }

    static void end(String test) {
        System.out.println(test + ": " + looked + " looks, " + wrong + " wrong");
        if (wrong != 0) {
            System.exit(1);
        }
    }
}
