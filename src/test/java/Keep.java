import java.util.ArrayList;
import java.util.List;

/** A CursorKeep under test, which is asked no more than the 512 calls that an object answers for. */
final class Keep {
    static final int MOST_CALLS = 512;

    interface Call {
        Object on(CursorKeep x);
    }

    private final CursorKeep object = new CursorKeep();
    private final List<Call> past = new ArrayList<>();

    /** Hand 0 types these letters in text 0. */
    static Keep written(String letters) {
        Keep k = new Keep();
        k.write(0, 0, letters);
        return k;
    }

    void write(int hand, int text, String letters) {
        for (char letter : letters.toCharArray()) {
            type(hand, text, letter);
        }
    }

    /** Another object, to which all was done that was done to this one, and which can be asked in its place. */
    Keep twin() {
        Keep twin = new Keep();
        for (Call call : past) {
            try {
                twin.made(call);
            } catch (RuntimeException e) {
                // It is refused here as it was there.
            }
        }
        return twin;
    }

    int callsLeft() {
        return MOST_CALLS - past.size();
    }

    Object made(Call call) {
        if (callsLeft() == 0) {
            throw new AssertionError("a test asks an object for more than " + MOST_CALLS + " calls");
        }
        past.add(call);
        return call.on(object);
    }

    int type(int hand, int text, char letter) {
        return (int) made(x -> x.type(hand, text, letter));
    }

    int erase(int hand, int text) {
        return (int) made(x -> x.erase(hand, text));
    }

    int moveTo(int hand, int text, int place) {
        return (int) made(x -> x.moveTo(hand, text, place));
    }

    int undo(int hand) {
        return (int) made(x -> x.undo(hand));
    }

    int redo(int hand) {
        return (int) made(x -> x.redo(hand));
    }

    int place(int hand, int text) {
        return (int) made(x -> x.place(hand, text));
    }

    int length(int text) {
        return (int) made(x -> x.length(text));
    }

    char letter(int text, int place) {
        return (char) made(x -> x.letter(text, place));
    }

    char letterAnew(int text, int place) {
        return (char) made(x -> x.letterAnew(text, place));
    }

    int version(int text) {
        return (int) made(x -> x.version(text));
    }

    int ask(int text, int kind, int number) {
        return (int) made(x -> x.ask(text, kind, number));
    }

    int come(int format) {
        return (int) made(x -> x.come(format));
    }

    int drop(int format) {
        return (int) made(x -> x.drop(format));
    }

    int state(int format) {
        return (int) made(x -> x.state(format));
    }

    int spared(int format) {
        return (int) made(x -> x.spared(format));
    }

    boolean lock(int hand, int text) {
        return (boolean) made(x -> x.lock(hand, text));
    }

    int save(int hand, int text, int format) {
        return (int) made(x -> x.save(hand, text, format));
    }

    int write() {
        return (int) made(x -> x.write());
    }

    int queued() {
        return (int) made(x -> x.queued());
    }

    int savedVersion(int text) {
        return (int) made(x -> x.savedVersion(text));
    }

    int savedLength(int text) {
        return (int) made(x -> x.savedLength(text));
    }

    char savedLetter(int text, int place) {
        return (char) made(x -> x.savedLetter(text, place));
    }
}
