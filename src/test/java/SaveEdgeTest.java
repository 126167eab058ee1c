/** The edges that 'Saves' and promises 17 to 23 name, a test for each sentence. */
public final class SaveEdgeTest extends Checks {
    public static void main(String[] args) {
        mostSaves();
        mostSavesCountTheWritten();
        formatsOfOtherTexts();
        emptyQueue();
        queueByNumbers();
        waitingForAFormat();
        waitingForALock();
        locking();
        savesAheadInTheQueue();
        noneCanBeWritten();
        notSaved();
        emptyTextSaved();
        fullTextSaved();
        keptAsItShowed();
        keptOfEachText();
        end("SaveEdgeTest");
    }

    private static Keep withFormat(String letters) {
        Keep k = Keep.written(letters);
        k.ask(0, CursorKeep.SPACES, 0);
        return k;
    }

    // ---- how many

    private static void mostSaves() {
        sentence("Saves are numbered from 0, at most 60");
        Keep k = new Keep();
        for (int i = 0; i < 60; i++) {
            due("number " + i, k.save(i % 5, i % 3, NONE), i);
        }
        due("queued", k.queued(), 60);
        for (int text = 0; text < 3; text++) {
            int any = text;
            stateless(k, x -> x.save(0, any, NONE));
        }
        for (int i = 0; i < 60; i++) {
            due("written " + i, k.write(), i);
        }
        due("queued", k.queued(), 0);
    }

    private static void mostSavesCountTheWritten() {
        sentence("Saves are numbered from 0, at most 60");
        Keep k = new Keep();
        for (int i = 0; i < 60; i++) {
            due("number " + i, k.save(0, i % 3, NONE), i);
            due("written " + i, k.write(), i);
        }
        due("none is left", k.queued(), 0);
        stateless(k, x -> x.save(0, 0, NONE));
    }

    private static void formatsOfOtherTexts() {
        sentence("Throws `IllegalArgumentException` if the format is for another text");
        Keep k = new Keep();
        for (int text = 0; text < 3; text++) {
            k.ask(text, CursorKeep.SPACES, 0);
        }
        for (int i = 0; i < 9; i++) {
            int text = i / 3;
            int format = i % 3;
            if (text == format) {
                answers("a format of the text", k, x -> x.save(0, text, format), 0);
            } else {
                illegal(k, x -> x.save(0, text, format));
            }
        }
        k.come(0);
        k.drop(1);
        answers("one that came", k, x -> x.save(0, 0, 0), 0);
        answers("one that was dropped", k, x -> x.save(0, 1, 1), 0);
        illegal(k, x -> x.save(0, 1, 0));
        illegal(k, x -> x.save(0, 0, 1));
    }

    // ---- the queue

    private static void emptyQueue() {
        sentence("Returns its number; NONE if none can be");
        Keep k = new Keep();
        due("queued at first", k.queued(), 0);
        due("nothing to write", k.write(), NONE);
        k.save(0, 0, NONE);
        due("one is queued", k.queued(), 1);
        due("the first", k.write(), 0);
        due("none is queued", k.queued(), 0);
        due("nothing to write again", k.write(), NONE);
        due("none is queued still", k.queued(), 0);
    }

    private static void queueByNumbers() {
        sentence("The queue has the saves that are not written, by rising numbers");
        Keep k = new Keep();
        k.save(0, 2, NONE);
        k.save(0, 0, NONE);
        k.save(0, 1, NONE);
        due("the lowest number", k.write(), 0);
        k.save(0, 2, NONE);
        due("the next", k.write(), 1);
        due("two are left", k.queued(), 2);
        due("then", k.write(), 2);
        due("and the last", k.write(), 3);
    }

    private static void waitingForAFormat() {
        sentence("if its format, if it waits for one, is not WAITING any more");
        Keep k = withFormat("a  b");
        k.ask(0, CursorKeep.SPACES, 0);
        k.save(0, 0, 0);
        k.save(0, 0, 1);
        due("it waits", k.write(), NONE);
        answers("its format was dropped", k, x -> x.drop(0) + x.write(), 1);
        answers("another format came", k, x -> x.come(1) + x.write(), 1 + NONE);
        k.come(0);
        due("its format came", k.write(), 0);
        due("the next waits", k.write(), NONE);
        k.drop(1);
        due("no more", k.write(), 1);
        k.save(0, 0, 0);
        due("one that came ahead of the save", k.write(), 2);
        k.save(0, 0, 1);
        due("one that was dropped ahead of it", k.write(), 3);
        k.ask(0, CursorKeep.ENDS, 0);
        k.save(0, 0, NONE);
        due("one that waits for none", k.write(), 4);
    }

    // ---- locks

    private static void waitingForALock() {
        sentence("nobody but its hand has locked the text");
        for (int hand = 0; hand < 5; hand++) {
            for (int other = 0; other < 5; other++) {
                Keep k = Keep.written("a");
                k.save(hand, 0, NONE);
                k.lock(other, 1);
                int locker = other;
                answers("another text is locked", k, x -> x.write(), 0);
                k.lock(locker, 0);
                due("locked by " + other + ", saved by " + hand, k.write(), hand == other ? 0 : NONE);
                if (hand != other) {
                    k.lock(locker, 0);
                    due("unlocked", k.write(), 0);
                }
            }
        }
    }

    private static void locking() {
        sentence("A text can be locked by one hand");
        for (int hand = 0; hand < 5; hand++) {
            Keep k = new Keep();
            int locker = hand;
            due("lock", k.lock(hand, 0), true);
            for (int other = 0; other < 5; other++) {
                int late = other;
                if (other != hand) {
                    stateless(k, x -> x.lock(late, 0));
                    answers("another text", k, x -> x.lock(late, 1), true);
                }
            }
            due("another text too", k.lock(hand, 2), true);
            due("unlock", k.lock(hand, 0), false);
            answers("another hand then", k, x -> x.lock((locker + 1) % 5, 0), true);
            stateless(k, x -> x.lock((locker + 1) % 5, 2));
            due("lock again", k.lock(hand, 0), true);
        }
        Keep k = Keep.written("a  b");
        k.ask(0, CursorKeep.SPACES, 0);
        k.lock(4, 0);
        due("a lock bars no typing", k.type(0, 0, 'c'), 5);
        due("nor erasing", k.erase(1, 0), 4);
        due("nor moving", k.moveTo(2, 0, 1), 4);
        due("nor undoing", k.undo(1), 0);
        due("nor redoing", k.redo(1), 0);
        due("nor formats", k.come(0) + k.ask(0, CursorKeep.ENDS, 0), 2);
        due("nor that a save is asked for", k.save(0, 0, NONE), 0);
    }

    private static void savesAheadInTheQueue() {
        sentence("and no save ahead of it in the queue is for the same text");
        Keep k = withFormat("ab");
        k.save(1, 0, 0);
        k.save(2, 0, NONE);
        k.save(2, 1, NONE);
        due("past the text that waits for a format", k.write(), 2);
        due("the second of it waits too", k.write(), NONE);
        k.come(0);
        k.lock(2, 0);
        due("the first waits for a lock, so the second does", k.write(), NONE);
        k.lock(2, 0);
        due("the first", k.write(), 0);
        due("then the second", k.write(), 1);
    }

    private static void noneCanBeWritten() {
        sentence("Returns its number; NONE if none can be");
        Keep k = withFormat("a");
        k.lock(0, 1);
        k.save(1, 0, 0);
        k.save(1, 1, NONE);
        due("one waits for a format, one for a lock", k.write(), NONE);
        due("both are queued", k.queued(), 2);
        due("nothing is saved", k.savedVersion(0) + k.savedVersion(1), 2 * NONE);
        k.drop(0);
        due("one is left", k.write(), 0);
        due("which still waits", k.write(), NONE);
        due("one is queued", k.queued(), 1);
    }

    // ---- what was saved

    private static void notSaved() {
        sentence("Returns the version; NONE if the text was not saved");
        Keep k = Keep.written("a");
        k.save(0, 0, NONE);
        due("queued is not saved yet", k.savedVersion(0), NONE);
        sentence("Returns the letters; 0 if the text was not saved");
        due("queued is not saved yet", k.savedLength(0), 0);
        outside(k, x -> x.savedLetter(0, 0));
        k.write();
        due("saved", k.savedVersion(0) * 10 + k.savedLength(0), 11);
        for (int text = 1; text < 3; text++) {
            due("another text is not", k.savedVersion(text), NONE);
            due("another text is not", k.savedLength(text), 0);
        }
    }

    private static void emptyTextSaved() {
        sentence("what the text shows and its version are kept as saved");
        Keep k = new Keep();
        k.save(0, 0, NONE);
        k.write();
        due("version 0 is saved", k.savedVersion(0), 0);
        due("no letters", k.savedLength(0), 0);
        outside(k, x -> x.savedLetter(0, 0));
        Keep gone = Keep.written("a");
        gone.undo(0);
        gone.save(0, 0, NONE);
        gone.write();
        due("version 2 is saved", gone.savedVersion(0), 2);
        due("no letters that are there", gone.savedLength(0), 0);
        outside(gone, x -> x.savedLetter(0, 0));
    }

    private static void fullTextSaved() {
        sentence("what the text shows and its version are kept as saved");
        Keep k = Keep.written("ab".repeat(75));
        k.save(0, 0, NONE);
        k.write();
        due("all letters", k.savedLength(0), 150);
        due("the first", k.savedLetter(0, 0), 'a');
        due("the last", k.savedLetter(0, 149), 'b');
        due("the version", k.savedVersion(0), 150);
    }

    private static void keptAsItShowed() {
        sentence("what the text shows and its version are kept as saved");
        Keep k = withFormat("a  b");
        k.save(0, 0, 0);
        k.type(0, 0, 'c');
        k.come(0);
        k.write();
        k.type(0, 0, 'd');
        due("when it was written, not asked for", k.savedVersion(0), 6);
        due("the letters then", k.savedLength(0), 4);
        StringBuilder kept = new StringBuilder();
        for (int place = 0; place < 4; place++) {
            kept.append(k.savedLetter(0, place));
        }
        due("the letters then", kept.toString(), "a bc");
        outside(k, x -> x.savedLetter(0, 4));
        k.ask(0, CursorKeep.CAPITALS, 0);
        k.come(1);
        due("a format changes nothing that is saved", k.savedLetter(0, 0), 'a');
        k.save(0, 0, NONE);
        due("nor does a save in the queue", k.savedVersion(0), 6);
        k.write();
        due("a later one does", k.savedVersion(0), 8);
        due("by its letters too", k.savedLetter(0, 0), 'A');
        due("and their number", k.savedLength(0), 5);
    }

    private static void keptOfEachText() {
        sentence("what the text shows and its version are kept as saved");
        Keep k = new Keep();
        for (int text = 0; text < 3; text++) {
            k.write(0, text, "abc".substring(text));
            k.save(0, text, NONE);
        }
        for (int text = 0; text < 3; text++) {
            due("written", k.write(), text);
        }
        for (int text = 0; text < 3; text++) {
            due("saved length", k.savedLength(text), 3 - text);
            due("saved version", k.savedVersion(text), 3 - text);
            due("saved letter", k.savedLetter(text, 0), 'a' + text);
        }
    }
}
