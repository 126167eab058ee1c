/** The edges that 'Terms' and 'Acts' name, a test for each sentence. */
public final class ActEdgeTest extends Checks {
    public static void main(String[] args) {
        theLastCallOfAll();
        undoingAsMuchAsThereAreCalls();
        mostDeedsOfAText();
        mostLettersOfAText();
        mostLettersCountTheGone();
        mostLettersOfEachText();
        versionsBegin();
        versionsRise();
        versionsStay();
        versionOfAllAtOnce();
        cursorsAtFirst();
        cursorsOfALetterThatGoes();
        cursorsOfTheLastLetter();
        cursorsOfLettersThatGoByUndoing();
        typingAheadOfALetter();
        typingAtTheEnd();
        erasing();
        erasingWithNoneAhead();
        undoingNone();
        undoingWhatIsNoAct();
        undoingTheLatest();
        undoingATypedLetterThatIsGone();
        undoingAnErasedLetterThatIsThere();
        comingBackAtItsPlace();
        redoingNone();
        redoingTheLastUndone();
        redoingATypedLetterThatIsThere();
        redoingAnErasedLetterThatIsGone();
        redoingEndsByActs();
        redoingStaysByAllElse();
        cursorsStayAtTheirLetters();
        end("ActEdgeTest");
    }

    private static void letGo(Keep k, int hand, int place) {
        int before = k.moveTo(hand, 0, place + 1);
        k.erase(hand, 0);
        k.moveTo(hand, 0, before > place ? before - 1 : before);
    }

    // ---- what it is

    private static void theLastCallOfAll() {
        sentence("An object is used for at most 512 calls after it has been made");
        Keep k = new Keep();
        for (int text = 0; text < 3; text++) {
            k.write(text, text, "ab".repeat(75));
        }
        for (int i = 0; i < 61; i++) {
            k.erase(0, 0);
        }
        due("calls left", k.callsLeft(), 1);
        answers("the 512th call", k, x -> x.length(0), 89);
        answers("the 512th call", k, x -> x.letter(1, 149), 'b');
        answers("the 512th call", k, x -> x.letterAnew(0, 88), 'a');
        answers("the 512th call", k, x -> x.letterAnew(2, 149), 'b');
        answers("the 512th call", k, x -> x.version(0), 211);
        answers("the 512th call", k, x -> x.erase(0, 0), 88);
        answers("the 512th call", k, x -> x.undo(0), 0);
        answers("the 512th call", k, x -> x.ask(0, CursorKeep.WRAP, 40), 0);
        answers("the 512th call", k, x -> x.save(4, 2, NONE), 0);
        answers("the 512th call", k, x -> x.write(), NONE);
    }

    private static void undoingAsMuchAsThereAreCalls() {
        sentence("To undo takes the latest act of a hand, in whatever text, that is not undone");
        Keep k = new Keep();
        k.write(0, 0, "a".repeat(150));
        k.write(0, 1, "a".repeat(105));
        for (int i = 0; i < 255; i++) {
            due("undo " + i, k.undo(0), i < 105 ? 1 : 0);
        }
        answers("length then", k, x -> x.length(0), 0);
        answers("redo then", k, x -> x.redo(0), 0);
        stateless(k, x -> x.undo(0));
    }

    private static void mostDeedsOfAText() {
        sentence("Returns the same, by doing all that was ever done to the text once more");
        Keep k = Keep.written(" ".repeat(75));
        for (int round = 0; round < 3; round++) {
            if (round > 0) {
                undoAndRedo(k, 75);
            }
            k.ask(0, CursorKeep.ENDS, 0);
            due("all go", k.come(round), 75);
        }
        undoAndRedo(k, 60);
        answers("length", k, x -> x.length(0), 60);
        answers("letterAnew", k, x -> x.letterAnew(0, 59), ' ');
        outside(k, x -> x.letterAnew(0, 60));
    }

    /** Undoing finds the letters gone by a format, and redoing lets them come back. */
    private static void undoAndRedo(Keep k, int times) {
        for (int i = 0; i < times; i++) {
            k.undo(0);
        }
        for (int i = 0; i < times; i++) {
            k.redo(0);
        }
    }

    // ---- texts

    private static void mostLettersOfAText() {
        sentence("at most 150 are ever typed in a text");
        Keep k = Keep.written("ab".repeat(74) + "c");
        due("one less", k.length(0), 149);
        due("the last that is typed", k.type(0, 0, 'd'), 150);
        stateless(k, x -> x.type(0, 0, 'e'));
        stateless(k, x -> x.type(4, 0, 'e'));
        k.moveTo(1, 0, 0);
        stateless(k, x -> x.type(1, 0, 'e'));
        shows(k, 0, "ab".repeat(74) + "cd");
        Keep ahead = Keep.written("b".repeat(149));
        ahead.moveTo(0, 0, 0);
        due("the last that is typed ahead of all", ahead.type(0, 0, 'a'), 1);
        stateless(ahead, x -> x.type(0, 0, 'a'));
    }

    private static void mostLettersCountTheGone() {
        sentence("at most 150 are ever typed in a text");
        Keep k = Keep.written("a".repeat(148) + "  ");
        k.erase(0, 0);
        stateless(k, x -> x.type(0, 0, 'b'));
        k.undo(0);
        k.undo(0);
        stateless(k, x -> x.type(0, 0, 'b'));
        k.redo(0);
        k.ask(0, CursorKeep.ENDS, 0);
        due("two go by a format", k.come(0), 2);
        stateless(k, x -> x.type(0, 0, 'b'));
        Keep room = Keep.written("a".repeat(149));
        room.undo(0);
        room.redo(0);
        due("undoing and redoing types none", room.type(0, 0, 'b'), 150);
        stateless(room, x -> x.type(0, 0, 'b'));
    }

    private static void mostLettersOfEachText() {
        sentence("at most 150 are ever typed in a text");
        Keep k = new Keep();
        for (int text = 0; text < 3; text++) {
            for (int i = 0; i < 150; i++) {
                due("type " + i + " in text " + text, k.type(i % 5, text, 'a'), i + 1);
            }
            int full = text;
            stateless(k, x -> x.type(0, full, 'a'));
        }
    }

    // ---- versions

    private static void versionsBegin() {
        sentence("A text has a version, 0 at first");
        Keep k = new Keep();
        due("versions", k.version(0) + k.version(1) + k.version(2), 0);
    }

    private static void versionsRise() {
        sentence("which becomes 1 more whenever letters of it come, go, come back, or have another character");
        Keep k = new Keep();
        k.type(0, 0, 'a');
        due("a letter comes", k.version(0), 1);
        k.erase(0, 0);
        due("a letter goes", k.version(0), 2);
        k.undo(0);
        due("a letter comes back by undoing", k.version(0), 3);
        k.redo(0);
        due("a letter goes by redoing", k.version(0), 4);
        k.undo(0);
        k.undo(0);
        due("a letter goes by undoing", k.version(0), 6);
        k.redo(0);
        due("a letter comes back by redoing", k.version(0), 7);
        k.ask(0, CursorKeep.CAPITALS, 0);
        k.come(0);
        due("a letter has another character", k.version(0), 8);
        due("other texts stay", k.version(1) + k.version(2), 0);
    }

    private static void versionsStay() {
        sentence("which becomes 1 more whenever letters of it come, go, come back, or have another character");
        Keep k = Keep.written("a b");
        k.moveTo(0, 0, 1);
        k.ask(0, CursorKeep.SPACES, 0);
        k.come(0);
        k.ask(0, CursorKeep.CAPITALS, 0);
        k.drop(1);
        k.lock(0, 0);
        k.save(0, 0, NONE);
        k.write();
        due("moving, a format of no changes, a dropped one, locks and saves", k.version(0), 3);
        k.ask(0, CursorKeep.CAPITALS, 0);
        k.moveTo(1, 0, 0);
        k.type(1, 0, 'x');
        due("a letter more", k.version(0), 4);
        due("all changes spared", k.come(2), 0);
        due("make no version", k.version(0), 4);
    }

    private static void versionOfAllAtOnce() {
        sentence("once by a call");
        Keep k = Keep.written(" ".repeat(150));
        k.ask(0, CursorKeep.SPACES, 0);
        due("many go", k.come(0), 149);
        due("one version more", k.version(0), 151);
        Keep one = Keep.written("a  b");
        one.ask(0, CursorKeep.SPACES, 0);
        due("one goes", one.come(0), 1);
        due("one version more", one.version(0), 5);
    }

    // ---- cursors

    private static void cursorsAtFirst() {
        sentence("or at the end, as at first");
        Keep k = Keep.written("ab");
        for (int hand = 0; hand < 5; hand++) {
            due("a cursor that never moved", k.place(hand, 0), 2);
        }
        for (int hand = 0; hand < 5; hand++) {
            due("types at the end", k.type(hand, 0, (char) ('0' + hand)), 3 + hand);
        }
        shows(k, 0, "ab01234");
    }

    private static void cursorsOfALetterThatGoes() {
        sentence("When a letter at which cursors stand goes, they stand at the next letter behind it that is there");
        Keep k = Keep.written("abcde");
        letGo(k, 4, 2);
        for (int hand = 0; hand < 4; hand++) {
            k.moveTo(hand, 0, 1);
        }
        k.moveTo(4, 0, 2);
        due("the letter at which they stand goes", k.erase(4, 0), 1);
        for (int hand = 0; hand < 4; hand++) {
            due("past the one that is gone already", k.place(hand, 0), 1);
        }
        for (int hand = 0; hand < 4; hand++) {
            k.type(hand, 0, (char) ('0' + hand));
        }
        shows(k, 0, "a0123de");
        k.undo(4);
        due("at d, not at the letter that came back", k.place(0, 0), 6);
        shows(k, 0, "ab0123de");
    }

    private static void cursorsOfTheLastLetter() {
        sentence("or at the end, if there is none");
        Keep k = Keep.written("abc");
        letGo(k, 4, 2);
        k.moveTo(1, 0, 1);
        k.moveTo(2, 0, 0);
        k.erase(0, 0);
        due("no letter behind that is there", k.place(1, 0), 1);
        k.undo(0);
        k.undo(4);
        due("it stands at the end by then", k.place(1, 0), 3);
        k.type(1, 0, 'x');
        shows(k, 0, "abcx");
        due("one ahead of it stays", k.place(2, 0), 0);
        Keep one = Keep.written("a");
        one.moveTo(1, 0, 0);
        one.erase(0, 0);
        one.undo(0);
        due("the only letter went", one.place(1, 0), 1);
    }

    private static void cursorsOfLettersThatGoByUndoing() {
        sentence("When a letter at which cursors stand goes, they stand at the next letter behind it that is there");
        Keep k = Keep.written("abc");
        k.moveTo(1, 0, 1);
        k.type(1, 0, 'x');
        k.moveTo(2, 0, 1);
        k.undo(1);
        due("a typed letter goes by undoing", k.place(2, 0), 1);
        k.redo(1);
        due("it stands at b", k.place(2, 0), 2);
        k.erase(1, 0);
        k.undo(1);
        k.moveTo(3, 0, 1);
        k.redo(1);
        due("an erased letter goes by redoing", k.place(3, 0), 1);
        k.undo(1);
        due("it stands at b", k.place(3, 0), 2);
        Keep last = Keep.written("ab");
        last.moveTo(2, 0, 1);
        last.undo(0);
        due("the last letter goes by undoing", last.place(2, 0), 1);
        last.redo(0);
        due("it stands at the end", last.place(2, 0), 2);
    }

    // ---- typing and erasing

    private static void typingAheadOfALetter() {
        sentence("right ahead of the letter at which the cursor of the hand stands");
        Keep k = Keep.written("abc");
        k.moveTo(0, 0, 2);
        k.erase(0, 0);
        due("typed between the gone letter and c", k.type(0, 0, 'x'), 2);
        k.moveTo(1, 0, 0);
        due("typed ahead of all", k.type(1, 0, 'y'), 1);
        shows(k, 0, "yaxc");
        k.undo(0);
        k.undo(0);
        shows(k, 0, "yabc");
    }

    private static void typingAtTheEnd() {
        sentence("or behind all letters of the row, if it stands at the end");
        Keep k = Keep.written("ab");
        k.erase(0, 0);
        due("typed behind the gone letter", k.type(1, 0, 'x'), 2);
        k.undo(0);
        shows(k, 0, "abx");
        Keep none = Keep.written("a");
        none.undo(0);
        none.type(1, 0, 'x');
        none.redo(0);
        shows(none, 0, "ax");
        Keep first = new Keep();
        due("typed in an empty text", first.type(3, 1, 'x'), 1);
        shows(first, 1, "x");
    }

    private static void erasing() {
        sentence("To erase is to let the letter go that is there and comes just ahead of the place of the cursor");
        Keep k = Keep.written("abcd");
        k.moveTo(0, 0, 3);
        due("c", k.erase(0, 0), 2);
        due("b, past the gone c", k.erase(0, 0), 1);
        due("a, the first", k.erase(0, 0), 0);
        shows(k, 0, "d");
        due("at the end", k.erase(1, 0), 0);
        shows(k, 0, "");
        Keep first = Keep.written("ab");
        first.moveTo(0, 0, 1);
        due("the first one", first.erase(0, 0), 0);
        shows(first, 0, "b");
    }

    private static void erasingWithNoneAhead() {
        sentence("Throws `IllegalStateException` if there is no letter ahead of the cursor");
        for (int text = 0; text < 3; text++) {
            int empty = text;
            stateless(new Keep(), x -> x.erase(0, empty));
        }
        Keep k = Keep.written("ab");
        k.moveTo(0, 0, 0);
        stateless(k, x -> x.erase(0, 0));
        answers("one ahead", k, x -> x.moveTo(0, 0, 1) + x.erase(0, 0), 0);
        k.moveTo(1, 0, 1);
        k.erase(1, 0);
        stateless(k, x -> x.erase(1, 0));
        k.moveTo(1, 0, 1);
        k.erase(1, 0);
        stateless(k, x -> x.erase(2, 0));
    }

    // ---- undoing

    private static void undoingNone() {
        sentence("Throws `IllegalStateException` if there is none that is not undone");
        for (int hand = 0; hand < 5; hand++) {
            int idle = hand;
            stateless(new Keep(), x -> x.undo(idle));
        }
        Keep k = Keep.written("a");
        for (int hand = 1; hand < 5; hand++) {
            int idle = hand;
            stateless(k, x -> x.undo(idle));
        }
        due("the only act", k.undo(0), 0);
        stateless(k, x -> x.undo(0));
        k.redo(0);
        due("the same again", k.undo(0), 0);
        stateless(k, x -> x.undo(0));
    }

    private static void undoingWhatIsNoAct() {
        sentence("Throws `IllegalStateException` if there is none that is not undone");
        Keep k = Keep.written("a  b");
        k.moveTo(1, 0, 2);
        k.ask(0, CursorKeep.CAPITALS, 0);
        k.come(0);
        k.ask(0, CursorKeep.SPACES, 0);
        k.drop(1);
        k.lock(1, 0);
        k.save(1, 0, NONE);
        k.write();
        stateless(k, x -> x.undo(1));
        stateless(k, x -> x.redo(1));
    }

    private static void undoingTheLatest() {
        sentence("To undo takes the latest act of a hand, in whatever text, that is not undone");
        Keep k = new Keep();
        k.type(1, 0, 'a');
        k.type(1, 2, 'b');
        k.erase(1, 0);
        k.type(2, 1, 'c');
        k.type(1, 1, 'd');
        due("typed in text 1", k.undo(1), 1);
        shows(k, 1, "c");
        due("erased in text 0", k.undo(1), 0);
        shows(k, 0, "a");
        due("typed in text 2", k.undo(1), 2);
        shows(k, 2, "");
        due("typed in text 0", k.undo(1), 0);
        shows(k, 0, "");
        stateless(k, x -> x.undo(1));
    }

    private static void undoingATypedLetterThatIsGone() {
        sentence("of a typed letter, if it is there, it goes");
        Keep k = Keep.written("ab");
        k.erase(1, 0);
        due("the letter is gone", k.undo(0), 0);
        due("no version comes of it", k.version(0), 3);
        shows(k, 0, "a");
        due("that act was taken, now the one ahead of it", k.undo(0), 0);
        shows(k, 0, "");
        stateless(k, x -> x.undo(0));
        Keep format = Keep.written("a ");
        format.ask(0, CursorKeep.ENDS, 0);
        format.come(0);
        due("a format let it go", format.undo(0), 0);
        due("no version comes of that either", format.version(0), 3);
        due("redoing brings it back", format.redo(0), 0);
        shows(format, 0, "a ");
    }

    private static void undoingAnErasedLetterThatIsThere() {
        sentence("an erased letter, if it is gone, comes back");
        Keep k = Keep.written("ab");
        k.erase(1, 0);
        k.undo(0);
        k.redo(0);
        shows(k, 0, "ab");
        due("versions", k.version(0), 4);
        due("the letter is there", k.undo(1), 0);
        due("no version comes of it", k.version(0), 4);
        shows(k, 0, "ab");
        stateless(k, x -> x.undo(1));
    }

    private static void comingBackAtItsPlace() {
        sentence("an erased letter, if it is gone, comes back, at its place in the row");
        Keep k = Keep.written("abc");
        k.moveTo(0, 0, 1);
        k.erase(0, 0);
        k.moveTo(1, 0, 0);
        k.type(1, 0, 'x');
        k.undo(0);
        shows(k, 0, "axbc");
        Keep last = Keep.written("abc");
        last.erase(0, 0);
        last.type(1, 0, 'x');
        last.undo(0);
        shows(last, 0, "abcx");
    }

    // ---- redoing

    private static void redoingNone() {
        sentence("To redo takes the act that the hand has undone last");
        for (int hand = 0; hand < 5; hand++) {
            int idle = hand;
            stateless(new Keep(), x -> x.redo(idle));
        }
        Keep k = Keep.written("a");
        stateless(k, x -> x.redo(0));
        k.undo(0);
        stateless(k, x -> x.redo(1));
        due("the only one", k.redo(0), 0);
        stateless(k, x -> x.redo(0));
    }

    private static void redoingTheLastUndone() {
        sentence("To redo takes the act that the hand has undone last");
        Keep k = new Keep();
        k.type(0, 0, 'a');
        k.type(0, 1, 'b');
        k.type(0, 2, 'c');
        k.undo(0);
        k.undo(0);
        k.undo(0);
        due("undone last", k.redo(0), 0);
        due("undone ahead of it", k.redo(0), 1);
        k.undo(0);
        due("undone anew", k.redo(0), 1);
        due("undone first", k.redo(0), 2);
        stateless(k, x -> x.redo(0));
    }

    private static void redoingATypedLetterThatIsThere() {
        sentence("a typed letter, if it is gone, comes back");
        Keep k = Keep.written("ab");
        k.erase(1, 0);
        k.undo(0);
        k.undo(1);
        shows(k, 0, "ab");
        due("versions", k.version(0), 4);
        due("the letter is there", k.redo(0), 0);
        due("no version comes of it", k.version(0), 4);
        stateless(k, x -> x.redo(0));
        due("the act stands", k.undo(0), 0);
        shows(k, 0, "a");
    }

    private static void redoingAnErasedLetterThatIsGone() {
        sentence("an erased letter, if it is there, goes");
        Keep k = Keep.written("ab");
        k.erase(1, 0);
        k.undo(1);
        k.undo(0);
        due("versions", k.version(0), 5);
        due("the letter is gone", k.redo(1), 0);
        due("no version comes of it", k.version(0), 5);
        stateless(k, x -> x.redo(1));
        due("the act stands", k.undo(1), 0);
        shows(k, 0, "ab");
    }

    private static void redoingEndsByActs() {
        sentence("When a hand types or erases, what it has undone cannot be redone any more");
        Keep typed = Keep.written("ab");
        typed.undo(0);
        typed.undo(0);
        typed.type(0, 2, 'c');
        stateless(typed, x -> x.redo(0));
        typed.undo(0);
        due("the new act alone", typed.redo(0), 2);
        stateless(typed, x -> x.redo(0));
        Keep erased = Keep.written("ab");
        erased.undo(0);
        erased.erase(0, 0);
        stateless(erased, x -> x.redo(0));
        erased.undo(0);
        erased.undo(0);
        stateless(erased, x -> x.undo(0));
        shows(erased, 0, "");
    }

    private static void redoingStaysByAllElse() {
        sentence("When a hand types or erases, what it has undone cannot be redone any more");
        Keep k = Keep.written("ab");
        k.undo(0);
        k.type(1, 0, 'x');
        k.erase(1, 0);
        k.moveTo(0, 0, 0);
        k.ask(0, CursorKeep.CAPITALS, 0);
        k.come(0);
        k.lock(0, 0);
        k.save(0, 0, NONE);
        k.write();
        stateless(k, x -> x.erase(0, 0));
        illegal(k, x -> x.type(0, 0, '!'));
        outside(k, x -> x.type(0, 3, 'a'));
        due("it can be redone", k.redo(0), 0);
        shows(k, 0, "Ab");
        Keep full = Keep.written("a".repeat(150));
        full.undo(0);
        stateless(full, x -> x.type(0, 0, 'b'));
        due("it can be redone", full.redo(0), 0);
    }

    private static void cursorsStayAtTheirLetters() {
        sentence("Cursors stay at their letters by all that");
        Keep k = Keep.written("abc");
        k.moveTo(1, 0, 1);
        k.moveTo(2, 0, 2);
        k.moveTo(3, 0, 0);
        k.type(3, 0, 'x');
        due("a letter typed ahead", k.place(1, 0) * 10 + k.place(2, 0), 23);
        k.undo(3);
        due("gone by undoing", k.place(1, 0) * 10 + k.place(2, 0), 12);
        k.redo(3);
        due("back by redoing", k.place(1, 0) * 10 + k.place(2, 0), 23);
        k.erase(3, 0);
        due("erased", k.place(1, 0) * 10 + k.place(2, 0), 12);
        k.undo(3);
        due("back by undoing", k.place(1, 0) * 10 + k.place(2, 0), 23);
        k.undo(0);
        due("a letter behind goes", k.place(1, 0), 2);
        due("and one at it stands at the end", k.place(2, 0), 3);
        k.redo(0);
        due("a cursor at the end stays there", k.place(2, 0), 4);
        Keep end = Keep.written("ab");
        end.undo(0);
        end.redo(0);
        due("the end stays the end", end.place(0, 0), 2);
    }
}
