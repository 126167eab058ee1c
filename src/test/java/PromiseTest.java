/** Each promise by hand: ordinary calls, the edges that the document names, and wrong arguments. */
public final class PromiseTest extends Checks {
    public static void main(String[] args) {
        newObject();
        typing();
        typingRefused();
        erasing();
        moving();
        undoing();
        undoingAcrossHandsAndTexts();
        redoing();
        places();
        lettersShown();
        lettersAnew();
        versions();
        askingRefused();
        coming();
        sparing();
        neighboursOfSpared();
        dropping();
        states();
        locking();
        saving();
        writing();
        writingInOrder();
        savedTexts();
        end("PromiseTest");
    }

    // ---- Promise 1

    private static void newObject() {
        Keep k = new Keep();
        for (int text = 0; text < 3; text++) {
            due("new length", k.length(text), 0);
            due("new version", k.version(text), 0);
            due("new savedVersion", k.savedVersion(text), NONE);
            due("new savedLength", k.savedLength(text), 0);
            for (int hand = 0; hand < 5; hand++) {
                due("new place", k.place(hand, text), 0);
            }
        }
        due("new queued", k.queued(), 0);
        due("new write", k.write(), NONE);
        outside(k, x -> x.state(0));
        Keep other = new Keep();
        other.type(0, 0, 'a');
        due("objects share nothing", k.length(0), 0);
        due("NONE", CursorKeep.NONE, -1);
        due("kinds", CursorKeep.SPACES + 10 * CursorKeep.ENDS + 100 * CursorKeep.CAPITALS + 1000 * CursorKeep.WRAP, 3210);
        due("states", CursorKeep.WAITING + 10 * CursorKeep.DONE + 100 * CursorKeep.DROPPED, 210);
    }

    // ---- Promise 2

    private static void typing() {
        Keep k = new Keep();
        due("type at the end", k.type(0, 0, 'a'), 1);
        due("type at the end again", k.type(0, 0, 'c'), 2);
        due("another hand at the end stays there", k.place(1, 0), 2);
        k.moveTo(1, 0, 1);
        k.moveTo(2, 0, 1);
        due("type in the middle", k.type(1, 0, 'b'), 2);
        due("a cursor at the same letter stays at it", k.place(2, 0), 2);
        shows(k, 0, "abc");
        k.moveTo(3, 0, 0);
        due("type ahead of all", k.type(3, 0, '/'), 1);
        shows(k, 0, "/abc");
        due("other texts stay empty", k.length(1) + k.length(2), 0);
        for (char c : "azAZ09 /".toCharArray()) {
            k.type(4, 2, c);
        }
        shows(k, 2, "azAZ09 /");
        typingBesideGoneLetters();
    }

    private static void typingBesideGoneLetters() {
        Keep k = Keep.written("ab");
        k.erase(0, 0);
        k.type(1, 0, 'c');
        k.undo(0);
        shows(k, 0, "abc");
        Keep m = Keep.written("axb");
        m.moveTo(1, 0, 2);
        m.erase(1, 0);
        m.type(2, 0, 'e');
        m.moveTo(2, 0, 1);
        m.type(2, 0, 'y');
        m.undo(1);
        shows(m, 0, "axybe");
    }

    private static void typingRefused() {
        Keep k = Keep.written("a");
        for (int bad : new int[] {-1, 5, FAR, LOW}) {
            outside(k, x -> x.type(bad, 0, 'a'));
        }
        for (int bad : new int[] {-1, 3, FAR, LOW}) {
            outside(k, x -> x.type(0, bad, 'a'));
        }
        outside(k, x -> x.type(5, 0, '!'));
        outside(k, x -> x.type(0, 3, '!'));
        for (char c : new char[] {'`', '{', '@', '[', '.', ':', '!', 0, 1, '\n', 127, 228, 255, 256 + 'a', 0xFFFF}) {
            illegal(k, x -> x.type(0, 0, c));
        }
        Keep full = new Keep();
        for (int i = 0; i < 150; i++) {
            due("type number " + i, full.type(0, 0, 'a'), i + 1);
        }
        stateless(full, x -> x.type(0, 0, 'a'));
        illegal(full, x -> x.type(0, 0, '-'));
        outside(full, x -> x.type(0, -1, '-'));
        full.erase(0, 0);
        stateless(full, x -> x.type(1, 0, 'a'));
        due("another text has room", full.type(1, 1, 'a'), 1);
    }

    // ---- Promise 3

    private static void erasing() {
        Keep k = Keep.written("abcd");
        k.moveTo(1, 0, 3);
        k.moveTo(2, 0, 2);
        due("erase in the middle", k.erase(1, 0), 2);
        shows(k, 0, "abd");
        due("a cursor at it stands at the next letter", k.place(2, 0), 2);
        due("a cursor at the end", k.place(0, 0), 3);
        due("erase over a gone letter", k.erase(1, 0), 1);
        shows(k, 0, "ad");
        due("erase the last", k.erase(0, 0), 1);
        due("its cursors stand at the end", k.place(1, 0), 1);
        k.type(1, 0, 'x');
        shows(k, 0, "ax");
        k.moveTo(3, 0, 0);
        stateless(k, x -> x.erase(3, 0));
        stateless(k, x -> x.erase(3, 1));
        for (int bad : new int[] {-1, 5, FAR, LOW}) {
            outside(k, x -> x.erase(bad, 0));
        }
        for (int bad : new int[] {-1, 3, FAR, LOW}) {
            outside(k, x -> x.erase(0, bad));
        }
        cursorsOfAllHandsMove();
        Keep gone = Keep.written("ab");
        gone.moveTo(1, 0, 1);
        gone.erase(1, 0);
        stateless(gone, x -> x.erase(1, 0));
    }

    private static void cursorsOfAllHandsMove() {
        Keep k = Keep.written("abc");
        for (int hand = 0; hand < 5; hand++) {
            k.moveTo(hand, 0, 1);
        }
        k.type(0, 1, 'x');
        k.moveTo(0, 1, 0);
        k.moveTo(1, 0, 2);
        due("the eraser stays", k.erase(1, 0), 1);
        for (int hand = 0; hand < 5; hand++) {
            k.type(hand, 0, (char) ('0' + hand));
        }
        shows(k, 0, "a01234c");
        due("cursors of other texts stay", k.place(0, 1), 0);
    }

    // ---- Promise 4

    private static void moving() {
        Keep k = Keep.written("abcd");
        due("moveTo answers the place before", k.moveTo(0, 0, 1), 4);
        due("moveTo again", k.moveTo(0, 0, 4), 1);
        due("moveTo the same", k.moveTo(0, 0, 4), 4);
        due("moveTo the beginning", k.moveTo(0, 0, 0), 4);
        due("moveTo makes no version", k.version(0), 4);
        due("an empty text has a place", k.moveTo(0, 1, 0), 0);
        k.moveTo(1, 0, 2);
        k.erase(1, 0);
        due("gone letters do not count", k.moveTo(2, 0, 3), 3);
        for (int bad : new int[] {-1, 4, FAR, LOW}) {
            outside(k, x -> x.moveTo(0, 0, bad));
        }
        outside(k, x -> x.moveTo(0, 1, 1));
        for (int bad : new int[] {-1, 5, FAR, LOW}) {
            outside(k, x -> x.moveTo(bad, 0, 0));
        }
        for (int bad : new int[] {-1, 3, FAR, LOW}) {
            outside(k, x -> x.moveTo(0, bad, 0));
        }
    }

    // ---- Promise 5

    private static void undoing() {
        Keep k = Keep.written("abc");
        k.moveTo(1, 0, 2);
        due("undo a typed letter", k.undo(0), 0);
        shows(k, 0, "ab");
        due("a cursor at it goes to the end", k.place(1, 0), 2);
        k.erase(0, 0);
        due("undo an erased letter", k.undo(0), 0);
        shows(k, 0, "ab");
        k.undo(0);
        k.undo(0);
        shows(k, 0, "");
        stateless(k, x -> x.undo(0));
        stateless(k, x -> x.undo(1));
        for (int bad : new int[] {-1, 5, FAR, LOW}) {
            outside(k, x -> x.undo(bad));
        }
        Keep m = Keep.written("ab");
        m.moveTo(0, 0, 0);
        m.undo(0);
        shows(m, 0, "a");
        due("moving is no act", m.place(0, 0), 0);
        cursorsStayWhenLettersComeBack();
    }

    private static void cursorsStayWhenLettersComeBack() {
        Keep k = Keep.written("abc");
        k.moveTo(1, 0, 1);
        k.moveTo(0, 0, 2);
        k.erase(0, 0);
        due("moved off the letter", k.place(1, 0), 1);
        k.undo(0);
        due("stays at the letter behind", k.place(1, 0), 2);
        due("and so does the eraser", k.place(0, 0), 2);
        k.moveTo(1, 0, 3);
        k.undo(0);
        k.redo(0);
        due("the end stays the end", k.place(1, 0), 3);
    }

    private static void undoingAcrossHandsAndTexts() {
        Keep k = Keep.written("ab");
        k.type(0, 2, 'z');
        k.type(1, 0, 'c');
        due("the latest act in whatever text", k.undo(0), 2);
        due("then the one in the other text", k.undo(0), 0);
        shows(k, 0, "ac");
        k.moveTo(2, 0, 1);
        k.erase(2, 0);
        int version = k.version(0);
        due("a typed letter that another hand erased", k.undo(0), 0);
        due("does nothing more", k.version(0), version);
        shows(k, 0, "c");
        k.undo(2);
        shows(k, 0, "ac");
        stateless(k, x -> x.undo(2));
        Keep m = Keep.written("ab");
        m.erase(1, 0);
        m.undo(0);
        m.redo(0);
        shows(m, 0, "ab");
        int before = m.version(0);
        due("an erased letter that is back already", m.undo(1), 0);
        due("does nothing more either", m.version(0), before);
        m.redo(1);
        shows(m, 0, "a");
    }

    // ---- Promise 6

    private static void redoing() {
        Keep k = Keep.written("ab");
        k.type(0, 1, 'c');
        stateless(k, x -> x.redo(0));
        k.undo(0);
        k.undo(0);
        due("redo the last undone first", k.redo(0), 0);
        due("then the one undone ahead of it", k.redo(0), 1);
        stateless(k, x -> x.redo(0));
        shows(k, 0, "ab");
        k.erase(0, 0);
        k.undo(0);
        k.redo(0);
        shows(k, 0, "a");
        k.undo(0);
        k.moveTo(0, 0, 1);
        k.redo(0);
        shows(k, 0, "a");
        k.undo(0);
        k.type(0, 2, 'x');
        stateless(k, x -> x.redo(0));
        k.undo(0);
        k.erase(0, 0);
        stateless(k, x -> x.redo(0));
        k.undo(0);
        k.type(1, 0, 'y');
        due("another hand's typing leaves it", k.redo(0), 0);
        stateless(k, x -> x.redo(1));
        for (int bad : new int[] {-1, 5, FAR, LOW}) {
            outside(k, x -> x.redo(bad));
        }
        redoingAfterRefusals();
    }

    private static void redoingAfterRefusals() {
        Keep k = Keep.written("ab");
        k.undo(0);
        stateless(k, x -> x.erase(0, 1));
        illegal(k, x -> x.type(0, 0, '!'));
        due("a refused act leaves what is undone", k.redo(0), 0);
        shows(k, 0, "ab");
        stateless(k, x -> x.redo(0));
        k.undo(0);
        k.undo(0);
        k.type(0, 0, 'c');
        k.undo(0);
        stateless(k, x -> x.undo(0));
        due("only the new act is redone", k.redo(0), 0);
        shows(k, 0, "c");
        stateless(k, x -> x.redo(0));
    }

    // ---- Promises 7, 8 and 9

    private static void places() {
        Keep k = Keep.written("abc");
        k.type(0, 1, 'x');
        k.moveTo(3, 0, 2);
        due("a cursor in each text", k.place(3, 0) * 10 + k.place(3, 1), 21);
        for (int bad : new int[] {-1, 5, FAR, LOW}) {
            outside(k, x -> x.place(bad, 0));
        }
        for (int bad : new int[] {-1, 3, FAR, LOW}) {
            outside(k, x -> x.place(0, bad));
            outside(k, x -> x.length(bad));
        }
    }

    private static void lettersShown() {
        Keep k = Keep.written("abc");
        k.moveTo(0, 0, 2);
        k.erase(0, 0);
        due("length without gone letters", k.length(0), 2);
        due("first letter", k.letter(0, 0), 'a');
        due("gone letters are passed", k.letter(0, 1), 'c');
        for (int bad : new int[] {-1, 2, 3, FAR, LOW}) {
            outside(k, x -> x.letter(0, bad));
            outside(k, x -> x.letterAnew(0, bad));
        }
        outside(k, x -> x.letter(1, 0));
        for (int bad : new int[] {-1, 3, FAR, LOW}) {
            outside(k, x -> x.letter(bad, 0));
            outside(k, x -> x.letterAnew(bad, 0));
        }
    }

    // ---- Promise 10

    private static void lettersAnew() {
        Keep k = Keep.written("ab  cd ");
        k.moveTo(1, 0, 2);
        k.type(1, 0, '/');
        k.ask(0, CursorKeep.CAPITALS, 0);
        k.ask(0, CursorKeep.SPACES, 0);
        k.moveTo(2, 0, 1);
        k.erase(2, 0);
        k.come(1);
        k.undo(2);
        k.come(0);
        k.type(2, 0, 'q');
        k.undo(0);
        k.undo(0);
        k.redo(0);
        shows(k, 0, "Aqb/ cd");
        k.type(3, 1, 'z');
        shows(k, 1, "z");
        shows(k, 0, "Aqb/ cd");
    }

    // ---- Promise 11

    private static void versions() {
        Keep k = Keep.written("a  b");
        due("one for each letter typed", k.version(0), 4);
        k.erase(0, 0);
        k.undo(0);
        k.redo(0);
        due("one for each act", k.version(0), 7);
        k.type(0, 0, ' ');
        k.ask(0, CursorKeep.ENDS, 0);
        k.ask(0, CursorKeep.ENDS, 0);
        k.moveTo(0, 0, 1);
        due("asking and moving make none", k.version(0), 8);
        due("three letters go", k.come(0) + k.spared(0), 3);
        due("once by a call", k.version(0), 9);
        due("nothing is left to do", k.come(1), 0);
        due("and no version comes", k.version(0), 9);
        k.save(0, 0, NONE);
        k.write();
        k.lock(0, 0);
        due("saves and locks make none", k.version(0), 9);
        due("nor in other texts", k.version(1), 0);
        for (int bad : new int[] {-1, 3, FAR, LOW}) {
            outside(k, x -> x.version(bad));
        }
    }

    // ---- Promise 12

    private static void askingRefused() {
        Keep k = Keep.written("a  b");
        for (int bad : new int[] {-1, 3, FAR, LOW}) {
            outside(k, x -> x.ask(bad, 9, 9));
        }
        for (int bad : new int[] {-1, 4, FAR, LOW}) {
            illegal(k, x -> x.ask(0, bad, 0));
        }
        for (int bad : new int[] {-1, 0, 4, 41, FAR, LOW}) {
            illegal(k, x -> x.ask(0, CursorKeep.WRAP, bad));
        }
        for (int kind = 0; kind < 3; kind++) {
            int other = kind;
            for (int bad : new int[] {-1, 1, 5, FAR, LOW}) {
                illegal(k, x -> x.ask(0, other, bad));
            }
        }
        for (int i = 0; i < 60; i++) {
            int kind = i % 4;
            due("number of a format", k.ask(i % 3, kind, kind == 3 ? (i % 8 == 3 ? 5 : 40) : 0), i);
            if (i % 5 == 0) {
                k.come(i);
            }
        }
        stateless(k, x -> x.ask(0, 0, 0));
        illegal(k, x -> x.ask(0, 0, 1));
        outside(k, x -> x.ask(3, 0, 0));
        due("the last one is there", k.state(59), CursorKeep.WAITING);
        outside(k, x -> x.state(60));
    }

    // ---- Promise 13

    private static void coming() {
        Keep k = Keep.written("a  b  c");
        k.ask(0, CursorKeep.SPACES, 0);
        k.ask(0, CursorKeep.SPACES, 0);
        outside(k, x -> x.come(-1));
        outside(k, x -> x.come(2));
        outside(k, x -> x.come(FAR));
        outside(k, x -> x.come(LOW));
        due("formats may come in any order", k.come(1), 2);
        stateless(k, x -> x.come(1));
        due("the other finds them gone", k.come(0), 0);
        shows(k, 0, "a b c");
        k.ask(0, CursorKeep.SPACES, 0);
        k.drop(2);
        stateless(k, x -> x.come(2));
        Keep m = Keep.written("a b");
        m.type(1, 0, ' ');
        m.ask(0, CursorKeep.ENDS, 0);
        m.come(0);
        m.undo(1);
        shows(m, 0, "a b");
        m.redo(1);
        shows(m, 0, "a b ");
        formatsStayWhenHandsUndo();
        formatsDoNotMixTheirLetters();
    }

    private static void formatsDoNotMixTheirLetters() {
        Keep m = Keep.written("  a");
        m.ask(0, CursorKeep.SPACES, 0);
        m.ask(0, CursorKeep.CAPITALS, 0);
        m.ask(0, CursorKeep.WRAP, 5);
        m.moveTo(1, 0, 3);
        m.type(1, 0, '/');
        m.type(1, 0, 'b');
        m.ask(0, CursorKeep.CAPITALS, 0);
        m.type(0, 1, 'a');
        m.ask(1, CursorKeep.ENDS, 0);
        due("each its own changes", m.drop(0) * 1000 + m.drop(1) * 100 + m.drop(3) * 10 + m.drop(4), 1010);
        formatsForgetOtherFormats();
    }

    private static void formatsForgetOtherFormats() {
        Keep k = Keep.written("a  /b");
        k.ask(0, CursorKeep.ENDS, 0);
        k.ask(0, CursorKeep.CAPITALS, 0);
        due("letters that go by the first", k.spared(0), 0);
        k.moveTo(1, 0, 2);
        k.erase(1, 0);
        due("are neighbours by the second", k.spared(1), 1);
        k.undo(1);
        due("and as they were", k.come(1), 2);
    }

    private static void formatsStayWhenHandsUndo() {
        Keep k = Keep.written("ab");
        k.moveTo(1, 0, 0);
        k.ask(0, CursorKeep.CAPITALS, 0);
        due("a cursor at it spares no capital", k.come(0), 1);
        k.undo(0);
        k.undo(0);
        k.redo(0);
        shows(k, 0, "A");
    }

    // ---- Promise 16

    private static void sparing() {
        Keep k = Keep.written("a  b");
        k.ask(0, CursorKeep.SPACES, 0);
        due("nothing is spared at first", k.spared(0), 0);
        k.moveTo(4, 0, 2);
        due("a cursor stands at it", k.spared(0), 1);
        k.moveTo(4, 0, 1);
        due("the cursor went on", k.spared(0), 0);
        for (int hand = 0; hand < 5; hand++) {
            int before = k.moveTo(hand, 0, 2);
            due("any hand's cursor", k.spared(0), 1);
            k.moveTo(hand, 0, before);
        }
        k.type(1, 1, 'a');
        k.type(1, 1, 'b');
        k.type(1, 1, 'c');
        k.moveTo(1, 1, 2);
        due("a cursor in another text", k.spared(0), 0);
        k.moveTo(1, 0, 3);
        k.erase(1, 0);
        due("the letter is gone", k.spared(0), 1);
        k.undo(1);
        due("the letter is back", k.spared(0), 0);
        k.moveTo(1, 0, 2);
        due("it is spared as it comes", k.come(0), 0);
        due("spared as it came", k.spared(0), 1);
        k.moveTo(1, 0, 0);
        due("spared as it came, still", k.spared(0), 1);
        shows(k, 0, "a  b");
        for (int bad : new int[] {-1, 1, FAR, LOW}) {
            outside(k, x -> x.spared(bad));
        }
        Keep m = Keep.written("a bcdefg ");
        m.ask(0, CursorKeep.WRAP, 5);
        m.ask(0, CursorKeep.WRAP, 5);
        due("a cursor at it spares no line's end", m.moveTo(1, 0, 1) + m.come(0), 10);
        due("it has another character", m.spared(1), 1);
        due("and is spared", m.come(1), 0);
        shows(m, 0, "a/bcdefg ");
    }

    private static void neighboursOfSpared() {
        Keep k = Keep.written("a   b   c");
        k.ask(0, CursorKeep.SPACES, 0);
        k.moveTo(1, 0, 3);
        k.type(1, 0, 'x');
        due("a new neighbour for both of a run", k.spared(0), 2);
        k.undo(1);
        k.moveTo(1, 0, 9);
        due("and the old one again", k.spared(0), 0);
        k.moveTo(1, 0, 3);
        k.erase(1, 0);
        k.moveTo(1, 0, 8);
        due("one that is to go is nobody's neighbour", k.spared(0), 1);
        k.moveTo(2, 0, 2);
        k.erase(2, 0);
        k.moveTo(2, 0, 7);
        due("the neighbour ahead has gone", k.spared(0), 2);
        k.undo(2);
        k.moveTo(2, 0, 4);
        k.erase(2, 0);
        due("the neighbour behind the first run has gone", k.spared(0), 2);
        k.undo(2);
        due("three of four do", k.come(0), 3);
        due("as they were then", k.spared(0), 1);
        shows(k, 0, "a b c");
        neighboursAtTheRims();
    }

    private static void neighboursAtTheRims() {
        Keep k = Keep.written("a  ");
        k.ask(0, CursorKeep.ENDS, 0);
        k.type(1, 0, 'x');
        due("behind there was none", k.spared(0), 2);
        k.erase(1, 0);
        due("none is the same as none", k.spared(0), 0);
        k.type(1, 0, ' ');
        due("a space typed since is a neighbour", k.spared(0), 2);
        k.undo(1);
        k.ask(0, CursorKeep.CAPITALS, 0);
        due("a neighbour with another character is the same", k.come(1) * 10 + k.spared(0), 10);
        due("all go", k.come(0), 2);
        Keep m = Keep.written("ab");
        m.ask(0, CursorKeep.CAPITALS, 0);
        m.moveTo(1, 0, 0);
        m.type(1, 0, ' ');
        due("ahead there was none", m.spared(0), 1);
        m.undo(1);
        m.undo(0);
        due("behind there was one", m.spared(0), 1);
        m.redo(0);
        due("as it was", m.come(0), 1);
    }

    // ---- Promise 14

    private static void dropping() {
        Keep k = Keep.written("a  b  c");
        k.ask(0, CursorKeep.SPACES, 0);
        k.ask(0, CursorKeep.CAPITALS, 0);
        k.moveTo(1, 0, 2);
        due("drop answers all changes", k.drop(0), 2);
        due("all are spared", k.spared(0), 2);
        k.moveTo(1, 0, 0);
        due("all still are", k.spared(0), 2);
        shows(k, 0, "a  b  c");
        due("no version comes of it", k.version(0), 7);
        stateless(k, x -> x.drop(0));
        k.come(1);
        stateless(k, x -> x.drop(1));
        for (int bad : new int[] {-1, 2, FAR, LOW}) {
            outside(k, x -> x.drop(bad));
        }
    }

    // ---- Promise 15

    private static void states() {
        Keep k = Keep.written("a");
        k.ask(0, 0, 0);
        k.ask(1, 1, 0);
        k.ask(2, 2, 0);
        due("waiting", k.state(0), CursorKeep.WAITING);
        k.come(1);
        k.drop(2);
        due("done, with nothing to do", k.state(1), CursorKeep.DONE);
        due("dropped", k.state(2), CursorKeep.DROPPED);
        due("still waiting", k.state(0), CursorKeep.WAITING);
        for (int bad : new int[] {-1, 3, FAR, LOW}) {
            outside(k, x -> x.state(bad));
        }
    }

    // ---- Promise 17

    private static void locking() {
        Keep k = Keep.written("a");
        due("lock", k.lock(1, 0), true);
        stateless(k, x -> x.lock(0, 0));
        due("another text", k.lock(0, 1), true);
        due("a hand may lock two", k.lock(1, 2), true);
        due("unlock", k.lock(1, 0), false);
        due("another hand then", k.lock(0, 0), true);
        stateless(k, x -> x.lock(1, 0));
        due("others type on in a locked text", k.type(2, 0, 'b'), 2);
        for (int bad : new int[] {-1, 5, FAR, LOW}) {
            outside(k, x -> x.lock(bad, 0));
        }
        for (int bad : new int[] {-1, 3, FAR, LOW}) {
            outside(k, x -> x.lock(0, bad));
        }
    }

    // ---- Promise 18

    private static void saving() {
        Keep k = Keep.written("a");
        k.ask(1, 0, 0);
        for (int bad : new int[] {-1, 5, FAR, LOW}) {
            outside(k, x -> x.save(bad, 0, 0));
        }
        for (int bad : new int[] {-1, 3, FAR, LOW}) {
            outside(k, x -> x.save(0, bad, 0));
        }
        for (int bad : new int[] {-2, 1, FAR, LOW}) {
            outside(k, x -> x.save(0, 0, bad));
        }
        illegal(k, x -> x.save(0, 0, 0));
        for (int i = 0; i < 60; i++) {
            due("number of a save", k.save(i % 5, 1, i % 2 == 0 ? NONE : 0), i);
        }
        due("all in the queue", k.queued(), 60);
        stateless(k, x -> x.save(0, 0, NONE));
        k.write();
        stateless(k, x -> x.save(0, 0, NONE));
        illegal(k, x -> x.save(0, 0, 0));
        outside(k, x -> x.save(0, 0, 1));
    }

    // ---- Promises 19 and 20

    private static void writing() {
        Keep k = Keep.written("ab");
        k.ask(0, 0, 0);
        k.ask(0, 0, 0);
        k.save(0, 0, 0);
        due("it waits for its format", k.write(), NONE);
        k.come(0);
        k.lock(1, 0);
        due("it waits for another hand's lock", k.write(), NONE);
        due("and stays in the queue", k.queued(), 1);
        k.lock(1, 0);
        k.lock(0, 0);
        due("its own hand's lock is none", k.write(), 0);
        due("it left the queue", k.queued(), 0);
        due("nothing is left", k.write(), NONE);
        k.save(1, 0, 1);
        k.drop(1);
        due("the lock bars another hand", k.write(), NONE);
        k.lock(0, 0);
        due("a dropped format is waited for no more", k.write(), 1);
        k.save(2, 0, 0);
        due("a format that came long ago", k.write(), 2);
    }

    private static void writingInOrder() {
        Keep k = Keep.written("ab");
        k.ask(0, 0, 0);
        k.save(0, 0, 0);
        k.save(0, 0, NONE);
        k.save(0, 1, NONE);
        k.save(0, 2, NONE);
        k.lock(3, 1);
        due("past those that cannot be written", k.write(), 3);
        due("those of a text go in order", k.write(), NONE);
        due("three are left", k.queued(), 3);
        k.lock(3, 1);
        due("the first that can be", k.write(), 2);
        k.drop(0);
        due("then by their numbers", k.write(), 0);
        due("and the next", k.write(), 1);
        due("none", k.write(), NONE);
    }

    // ---- Promises 21, 22 and 23

    private static void savedTexts() {
        Keep k = Keep.written("abc");
        k.save(0, 0, NONE);
        due("a queued save has saved nothing", k.savedVersion(0), NONE);
        k.type(0, 0, 'd');
        k.moveTo(1, 0, 1);
        k.erase(1, 0);
        k.write();
        due("version as it was written", k.savedVersion(0), 5);
        due("length as it was written", k.savedLength(0), 3);
        due("letter as it was written", k.savedLetter(0, 0), 'b');
        k.undo(0);
        k.undo(0);
        due("saved version stays", k.savedVersion(0), 5);
        due("saved length stays", k.savedLength(0), 3);
        due("saved letter stays", k.savedLetter(0, 2), 'd');
        k.save(1, 0, NONE);
        k.write();
        due("a later save is kept instead", k.savedLength(0), 1);
        outside(k, x -> x.savedLetter(0, 1));
        outside(k, x -> x.savedLetter(0, -1));
        outside(k, x -> x.savedLetter(0, FAR));
        outside(k, x -> x.savedLetter(0, LOW));
        outside(k, x -> x.savedLetter(1, 0));
        for (int bad : new int[] {-1, 3, FAR, LOW}) {
            outside(k, x -> x.savedVersion(bad));
            outside(k, x -> x.savedLength(bad));
            outside(k, x -> x.savedLetter(bad, 0));
        }
        k.save(2, 2, NONE);
        k.write();
        due("an empty text is saved with its version", k.savedVersion(2), 0);
        due("and no letters", k.savedLength(2), 0);
        outside(k, x -> x.savedLetter(2, 0));
        Keep full = Keep.written("ab".repeat(75));
        full.save(0, 0, NONE);
        full.write();
        due("a full text is saved whole", full.savedLength(0), 150);
        due("up to its last letter", full.savedLetter(0, 149), 'b');
        outside(full, x -> x.savedLetter(0, 150));
    }
}
