/**
 * All that an object answers from where it stands. One object has not calls enough for that, so it
 * is told in views, each by a twin of its own.
 */
final class Probe {
    static final int VIEWS = 13;
    private static final int TEXTS = 3, HANDS = 5;
    private static final String REFUSED = "!";

    private final Keep k;
    private final StringBuilder told = new StringBuilder();

    private Probe(Keep k) {
        this.k = k;
    }

    static String view(Keep twin, int view) {
        Probe probe = new Probe(twin);
        if (view < TEXTS) {
            probe.tellText(view);
        } else if (view < 2 * TEXTS) {
            probe.tellAnew(view - TEXTS);
        } else if (view < 2 * TEXTS + HANDS) {
            probe.tellActs(view - 2 * TEXTS);
        } else if (view == 2 * TEXTS + HANDS) {
            probe.tellFormats();
        } else {
            probe.tellSaves();
        }
        return probe.told.toString();
    }

    private String ask(Keep.Call call) {
        String answer = "-";
        if (k.callsLeft() > 0) {
            try {
                answer = String.valueOf(k.made(call));
            } catch (RuntimeException e) {
                answer = REFUSED;
            }
        }
        told.append(answer).append(' ');
        return answer;
    }

    private boolean answers(Keep.Call call) {
        String answer = ask(call);
        return !answer.equals(REFUSED) && k.callsLeft() > 0;
    }

    private void tellText(int text) {
        ask(x -> x.version(text));
        ask(x -> x.length(text));
        ask(x -> x.savedVersion(text));
        ask(x -> x.savedLength(text));
        for (int i = 0; i < HANDS; i++) {
            int hand = i;
            ask(x -> x.place(hand, text));
        }
        letters(place -> x -> x.letter(text, place));
        letters(place -> x -> x.savedLetter(text, place));
    }

    private void tellAnew(int text) {
        letters(place -> x -> x.letterAnew(text, place));
    }

    private void letters(java.util.function.IntFunction<Keep.Call> call) {
        int place = 0;
        while (answers(call.apply(place))) {
            place++;
        }
    }

    private void tellActs(int hand) {
        while (answers(x -> x.redo(hand))) {
            tellSizes();
        }
        while (answers(x -> x.undo(hand))) {
            tellSizes();
        }
    }

    private void tellSizes() {
        for (int i = 0; i < TEXTS; i++) {
            int text = i;
            ask(x -> x.version(text));
        }
    }

    private void tellFormats() {
        for (int i = 0; i <= 60; i++) {
            int format = i;
            if (!answers(x -> x.state(format))) {
                break;
            }
            ask(x -> x.spared(format));
        }
        ask(x -> x.ask(0, CursorKeep.ENDS, 0));
        for (int i = 0; i <= 60; i++) {
            int format = i;
            ask(x -> x.come(format));
        }
    }

    private void tellSaves() {
        ask(x -> x.queued());
        for (int i = 0; i < TEXTS * HANDS; i++) {
            int text = i / HANDS;
            int hand = i % HANDS;
            // Twice, so that the lock is as it was.
            ask(x -> x.lock(hand, text));
            ask(x -> x.lock(hand, text));
        }
        ask(x -> x.save(0, 0, CursorKeep.NONE));
        while (!ask(x -> x.write()).equals("-1") && k.callsLeft() > 0) {
            ask(x -> x.queued());
        }
        for (int i = 0; i < TEXTS; i++) {
            int text = i;
            ask(x -> x.savedVersion(text));
        }
    }
}
