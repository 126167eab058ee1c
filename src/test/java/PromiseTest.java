/** Each promise by hand: ordinary calls, the edges that the document names, and wrong arguments. */
public final class PromiseTest {
    private static final int NONE = CursorKeep.NONE;
    private static final int FAR = Integer.MAX_VALUE;
    private static final int LOW = Integer.MIN_VALUE;
    private static int wrong = 0;
    private static int looked = 0;

    private interface Call {
        void run();
    }

    public static void main(String[] args) {
        newObject();
        typing();
        typingRefused();
        erasing();
        moving();
        undoing();
        undoingAcrossHandsAndTexts();
        redoing();
        places();
        lettersShown();
        lettersAnew();
        versions();
        askingRefused();
        spacesFormat();
        endsFormat();
        capitalsFormat();
        wrapFormat();
        coming();
        sparing();
        neighboursOfSpared();
        dropping();
        states();
        locking();
        saving();
        writing();
        writingInOrder();
        savedTexts();
        System.out.println("PromiseTest: " + looked + " looks, " + wrong + " wrong");
        if (wrong != 0) {
            System.exit(1);
        }
    }

    // ---- Promise 1

    private static void newObject() {
        CursorKeep k = new CursorKeep();
        for (int text = 0; text < 3; text++) {
            due("new length", k.length(text), 0);
            due("new version", k.version(text), 0);
            due("new savedVersion", k.savedVersion(text), NONE);
            due("new savedLength", k.savedLength(text), 0);
            for (int hand = 0; hand < 5; hand++) {
                due("new place", k.place(hand, text), 0);
            }
        }
        due("new queued", k.queued(), 0);
        due("new write", k.write(), NONE);
        outside(k, () -> k.state(0));
        CursorKeep other = new CursorKeep();
        other.type(0, 0, 'a');
        due("objects share nothing", k.length(0), 0);
        due("NONE", CursorKeep.NONE, -1);
        due("kinds", CursorKeep.SPACES + 10 * CursorKeep.ENDS + 100 * CursorKeep.CAPITALS + 1000 * CursorKeep.WRAP, 3210);
        due("states", CursorKeep.WAITING + 10 * CursorKeep.DONE + 100 * CursorKeep.DROPPED, 210);
    }

    // ---- Promise 2

    private static void typing() {
        CursorKeep k = new CursorKeep();
        due("type at the end", k.type(0, 0, 'a'), 1);
        due("type at the end again", k.type(0, 0, 'c'), 2);
        due("another hand at the end stays there", k.place(1, 0), 2);
        k.moveTo(1, 0, 1);
        k.moveTo(2, 0, 1);
        due("type in the middle", k.type(1, 0, 'b'), 2);
        due("a cursor at the same letter stays at it", k.place(2, 0), 2);
        shows(k, 0, "abc");
        k.moveTo(3, 0, 0);
        due("type ahead of all", k.type(3, 0, '/'), 1);
        shows(k, 0, "/abc");
        due("other texts stay empty", k.length(1) + k.length(2), 0);
        for (char c : "azAZ09 /".toCharArray()) {
            k.type(4, 2, c);
        }
        shows(k, 2, "azAZ09 /");
        typingBesideGoneLetters();
    }

    private static void typingBesideGoneLetters() {
        CursorKeep k = written("ab");
        k.erase(0, 0);
        k.type(1, 0, 'c');
        k.undo(0);
        shows(k, 0, "abc");
        CursorKeep m = written("axb");
        m.moveTo(1, 0, 2);
        m.erase(1, 0);
        m.type(2, 0, 'e');
        m.moveTo(2, 0, 1);
        m.type(2, 0, 'y');
        m.undo(1);
        shows(m, 0, "axybe");
    }

    private static void typingRefused() {
        CursorKeep k = written("a");
        for (int bad : new int[] {-1, 5, FAR, LOW}) {
            outside(k, () -> k.type(bad, 0, 'a'));
        }
        for (int bad : new int[] {-1, 3, FAR, LOW}) {
            outside(k, () -> k.type(0, bad, 'a'));
        }
        outside(k, () -> k.type(5, 0, '!'));
        outside(k, () -> k.type(0, 3, '!'));
        for (char c : new char[] {'`', '{', '@', '[', '.', ':', '!', 0, 1, '\n', 127, 228, 255, 256 + 'a', 0xFFFF}) {
            illegal(k, () -> k.type(0, 0, c));
        }
        CursorKeep full = new CursorKeep();
        for (int i = 0; i < 150; i++) {
            due("type number " + i, full.type(0, 0, 'a'), i + 1);
        }
        stateless(full, () -> full.type(0, 0, 'a'));
        illegal(full, () -> full.type(0, 0, '-'));
        outside(full, () -> full.type(0, -1, '-'));
        full.erase(0, 0);
        stateless(full, () -> full.type(1, 0, 'a'));
        due("another text has room", full.type(1, 1, 'a'), 1);
    }

    // ---- Promise 3

    private static void erasing() {
        CursorKeep k = written("abcd");
        k.moveTo(1, 0, 3);
        k.moveTo(2, 0, 2);
        due("erase in the middle", k.erase(1, 0), 2);
        shows(k, 0, "abd");
        due("a cursor at it stands at the next letter", k.place(2, 0), 2);
        due("a cursor at the end", k.place(0, 0), 3);
        due("erase over a gone letter", k.erase(1, 0), 1);
        shows(k, 0, "ad");
        due("erase the last", k.erase(0, 0), 1);
        due("its cursors stand at the end", k.place(1, 0), 1);
        k.type(1, 0, 'x');
        shows(k, 0, "ax");
        k.moveTo(3, 0, 0);
        stateless(k, () -> k.erase(3, 0));
        stateless(k, () -> k.erase(3, 1));
        for (int bad : new int[] {-1, 5, FAR, LOW}) {
            outside(k, () -> k.erase(bad, 0));
        }
        for (int bad : new int[] {-1, 3, FAR, LOW}) {
            outside(k, () -> k.erase(0, bad));
        }
        cursorsOfAllHandsMove();
        CursorKeep gone = written("ab");
        gone.moveTo(1, 0, 1);
        gone.erase(1, 0);
        stateless(gone, () -> gone.erase(1, 0));
    }

    private static void cursorsOfAllHandsMove() {
        CursorKeep k = written("abc");
        for (int hand = 0; hand < 5; hand++) {
            k.moveTo(hand, 0, 1);
        }
        k.type(0, 1, 'x');
        k.moveTo(0, 1, 0);
        k.moveTo(1, 0, 2);
        due("the eraser stays", k.erase(1, 0), 1);
        for (int hand = 0; hand < 5; hand++) {
            k.type(hand, 0, (char) ('0' + hand));
        }
        shows(k, 0, "a01234c");
        due("cursors of other texts stay", k.place(0, 1), 0);
    }

    // ---- Promise 4

    private static void moving() {
        CursorKeep k = written("abcd");
        due("moveTo answers the place before", k.moveTo(0, 0, 1), 4);
        due("moveTo again", k.moveTo(0, 0, 4), 1);
        due("moveTo the same", k.moveTo(0, 0, 4), 4);
        due("moveTo the beginning", k.moveTo(0, 0, 0), 4);
        due("moveTo makes no version", k.version(0), 4);
        due("an empty text has a place", k.moveTo(0, 1, 0), 0);
        k.moveTo(1, 0, 2);
        k.erase(1, 0);
        due("gone letters do not count", k.moveTo(2, 0, 3), 3);
        for (int bad : new int[] {-1, 4, FAR, LOW}) {
            outside(k, () -> k.moveTo(0, 0, bad));
        }
        outside(k, () -> k.moveTo(0, 1, 1));
        for (int bad : new int[] {-1, 5, FAR, LOW}) {
            outside(k, () -> k.moveTo(bad, 0, 0));
        }
        for (int bad : new int[] {-1, 3, FAR, LOW}) {
            outside(k, () -> k.moveTo(0, bad, 0));
        }
    }

    // ---- Promise 5

    private static void undoing() {
        CursorKeep k = written("abc");
        k.moveTo(1, 0, 2);
        due("undo a typed letter", k.undo(0), 0);
        shows(k, 0, "ab");
        due("a cursor at it goes to the end", k.place(1, 0), 2);
        k.erase(0, 0);
        due("undo an erased letter", k.undo(0), 0);
        shows(k, 0, "ab");
        k.undo(0);
        k.undo(0);
        shows(k, 0, "");
        stateless(k, () -> k.undo(0));
        stateless(k, () -> k.undo(1));
        for (int bad : new int[] {-1, 5, FAR, LOW}) {
            outside(k, () -> k.undo(bad));
        }
        CursorKeep m = written("ab");
        m.moveTo(0, 0, 0);
        m.undo(0);
        shows(m, 0, "a");
        due("moving is no act", m.place(0, 0), 0);
        cursorsStayWhenLettersComeBack();
    }

    private static void cursorsStayWhenLettersComeBack() {
        CursorKeep k = written("abc");
        k.moveTo(1, 0, 1);
        k.moveTo(0, 0, 2);
        k.erase(0, 0);
        due("moved off the letter", k.place(1, 0), 1);
        k.undo(0);
        due("stays at the letter behind", k.place(1, 0), 2);
        due("and so does the eraser", k.place(0, 0), 2);
        k.moveTo(1, 0, 3);
        k.undo(0);
        k.redo(0);
        due("the end stays the end", k.place(1, 0), 3);
    }

    private static void undoingAcrossHandsAndTexts() {
        CursorKeep k = written("ab");
        k.type(0, 2, 'z');
        k.type(1, 0, 'c');
        due("the latest act in whatever text", k.undo(0), 2);
        due("then the one in the other text", k.undo(0), 0);
        shows(k, 0, "ac");
        k.moveTo(2, 0, 1);
        k.erase(2, 0);
        int version = k.version(0);
        due("a typed letter that another hand erased", k.undo(0), 0);
        due("does nothing more", k.version(0), version);
        shows(k, 0, "c");
        k.undo(2);
        shows(k, 0, "ac");
        stateless(k, () -> k.undo(2));
        CursorKeep m = written("ab");
        m.erase(1, 0);
        m.undo(0);
        m.redo(0);
        shows(m, 0, "ab");
        int before = m.version(0);
        due("an erased letter that is back already", m.undo(1), 0);
        due("does nothing more either", m.version(0), before);
        m.redo(1);
        shows(m, 0, "a");
    }

    // ---- Promise 6

    private static void redoing() {
        CursorKeep k = written("ab");
        k.type(0, 1, 'c');
        stateless(k, () -> k.redo(0));
        k.undo(0);
        k.undo(0);
        due("redo the last undone first", k.redo(0), 0);
        due("then the one undone ahead of it", k.redo(0), 1);
        stateless(k, () -> k.redo(0));
        shows(k, 0, "ab");
        k.erase(0, 0);
        k.undo(0);
        k.redo(0);
        shows(k, 0, "a");
        k.undo(0);
        k.moveTo(0, 0, 1);
        k.redo(0);
        shows(k, 0, "a");
        k.undo(0);
        k.type(0, 2, 'x');
        stateless(k, () -> k.redo(0));
        k.undo(0);
        k.erase(0, 0);
        stateless(k, () -> k.redo(0));
        k.undo(0);
        k.type(1, 0, 'y');
        due("another hand's typing leaves it", k.redo(0), 0);
        stateless(k, () -> k.redo(1));
        for (int bad : new int[] {-1, 5, FAR, LOW}) {
            outside(k, () -> k.redo(bad));
        }
        redoingAfterRefusals();
    }

    private static void redoingAfterRefusals() {
        CursorKeep k = written("ab");
        k.undo(0);
        stateless(k, () -> k.erase(0, 1));
        illegal(k, () -> k.type(0, 0, '!'));
        due("a refused act leaves what is undone", k.redo(0), 0);
        shows(k, 0, "ab");
        stateless(k, () -> k.redo(0));
        k.undo(0);
        k.undo(0);
        k.type(0, 0, 'c');
        k.undo(0);
        stateless(k, () -> k.undo(0));
        due("only the new act is redone", k.redo(0), 0);
        shows(k, 0, "c");
        stateless(k, () -> k.redo(0));
    }

    // ---- Promises 7, 8 and 9

    private static void places() {
        CursorKeep k = written("abc");
        k.type(0, 1, 'x');
        k.moveTo(3, 0, 2);
        due("a cursor in each text", k.place(3, 0) * 10 + k.place(3, 1), 21);
        for (int bad : new int[] {-1, 5, FAR, LOW}) {
            outside(k, () -> k.place(bad, 0));
        }
        for (int bad : new int[] {-1, 3, FAR, LOW}) {
            outside(k, () -> k.place(0, bad));
            outside(k, () -> k.length(bad));
        }
    }

    private static void lettersShown() {
        CursorKeep k = written("abc");
        k.moveTo(0, 0, 2);
        k.erase(0, 0);
        due("length without gone letters", k.length(0), 2);
        due("first letter", k.letter(0, 0), 'a');
        due("gone letters are passed", k.letter(0, 1), 'c');
        for (int bad : new int[] {-1, 2, 3, FAR, LOW}) {
            outside(k, () -> k.letter(0, bad));
            outside(k, () -> k.letterAnew(0, bad));
        }
        outside(k, () -> k.letter(1, 0));
        for (int bad : new int[] {-1, 3, FAR, LOW}) {
            outside(k, () -> k.letter(bad, 0));
            outside(k, () -> k.letterAnew(bad, 0));
        }
    }

    // ---- Promise 10

    private static void lettersAnew() {
        CursorKeep k = written("ab  cd ");
        k.moveTo(1, 0, 2);
        k.type(1, 0, '/');
        k.ask(0, CursorKeep.CAPITALS, 0);
        k.ask(0, CursorKeep.SPACES, 0);
        k.moveTo(2, 0, 1);
        k.erase(2, 0);
        k.come(1);
        k.undo(2);
        k.come(0);
        k.type(2, 0, 'q');
        k.undo(0);
        k.undo(0);
        k.redo(0);
        shows(k, 0, "Aqb/ cd");
        k.type(3, 1, 'z');
        shows(k, 1, "z");
        shows(k, 0, "Aqb/ cd");
    }

    // ---- Promise 11

    private static void versions() {
        CursorKeep k = written("a  b");
        due("one for each letter typed", k.version(0), 4);
        k.erase(0, 0);
        k.undo(0);
        k.redo(0);
        due("one for each act", k.version(0), 7);
        k.type(0, 0, ' ');
        k.ask(0, CursorKeep.ENDS, 0);
        k.ask(0, CursorKeep.ENDS, 0);
        k.moveTo(0, 0, 1);
        due("asking and moving make none", k.version(0), 8);
        due("three letters go", k.come(0) + k.spared(0), 3);
        due("once by a call", k.version(0), 9);
        due("nothing is left to do", k.come(1), 0);
        due("and no version comes", k.version(0), 9);
        k.save(0, 0, NONE);
        k.write();
        k.lock(0, 0);
        due("saves and locks make none", k.version(0), 9);
        due("nor in other texts", k.version(1), 0);
        for (int bad : new int[] {-1, 3, FAR, LOW}) {
            outside(k, () -> k.version(bad));
        }
    }

    // ---- Promise 12

    private static void askingRefused() {
        CursorKeep k = written("a  b");
        for (int bad : new int[] {-1, 3, FAR, LOW}) {
            outside(k, () -> k.ask(bad, 9, 9));
        }
        for (int bad : new int[] {-1, 4, FAR, LOW}) {
            illegal(k, () -> k.ask(0, bad, 0));
        }
        for (int bad : new int[] {-1, 0, 4, 41, FAR, LOW}) {
            illegal(k, () -> k.ask(0, CursorKeep.WRAP, bad));
        }
        for (int kind = 0; kind < 3; kind++) {
            int other = kind;
            for (int bad : new int[] {-1, 1, 5, FAR, LOW}) {
                illegal(k, () -> k.ask(0, other, bad));
            }
        }
        for (int i = 0; i < 60; i++) {
            int kind = i % 4;
            due("number of a format", k.ask(i % 3, kind, kind == 3 ? (i % 8 == 3 ? 5 : 40) : 0), i);
            if (i % 5 == 0) {
                k.come(i);
            }
        }
        stateless(k, () -> k.ask(0, 0, 0));
        illegal(k, () -> k.ask(0, 0, 1));
        outside(k, () -> k.ask(3, 0, 0));
        due("the last one is there", k.state(59), CursorKeep.WAITING);
        outside(k, () -> k.state(60));
    }

    private static void formats(String before, int kind, int number, int changes, String after) {
        CursorKeep k = written(before);
        if (!before.isEmpty()) {
            k.moveTo(0, 0, 0);
        }
        int last = before.length();
        int format = k.ask(0, kind, number);
        CursorKeep other = written(before);
        int dropped = other.ask(0, kind, number);
        due("changes had of " + before, other.drop(dropped), changes);
        k.moveTo(0, 0, last);
        due("changes done of " + before, k.come(format), changes);
        due("version of " + before, k.version(0), last + (changes > 0 ? 1 : 0));
        shows(k, 0, after);
    }

    private static void spacesFormat() {
        formats("", CursorKeep.SPACES, 0, 0, "");
        formats("a b", CursorKeep.SPACES, 0, 0, "a b");
        formats("a  b", CursorKeep.SPACES, 0, 1, "a b");
        formats("   ab    c  ", CursorKeep.SPACES, 0, 6, " ab c ");
        formats(" / / ", CursorKeep.SPACES, 0, 0, " / / ");
        formats(" ".repeat(150), CursorKeep.SPACES, 0, 149, " ");
    }

    private static void endsFormat() {
        formats("", CursorKeep.ENDS, 0, 0, "");
        formats("   ", CursorKeep.ENDS, 0, 3, "");
        formats("a  b  / c /  /d ", CursorKeep.ENDS, 0, 6, "a  b/ c//d");
        formats(" a", CursorKeep.ENDS, 0, 0, " a");
        formats("a /", CursorKeep.ENDS, 0, 1, "a/");
        formats(" ".repeat(150), CursorKeep.ENDS, 0, 150, "");
    }

    private static void capitalsFormat() {
        formats("", CursorKeep.CAPITALS, 0, 0, "");
        formats("abc abc/z/A/ a/0a//q", CursorKeep.CAPITALS, 0, 3, "Abc abc/Z/A/ a/0a//Q");
        formats("/a", CursorKeep.CAPITALS, 0, 1, "/A");
        formats("a/".repeat(75), CursorKeep.CAPITALS, 0, 75, "A/".repeat(75));
    }

    private static void wrapFormat() {
        formats("", CursorKeep.WRAP, 5, 0, "");
        formats("abcde", CursorKeep.WRAP, 5, 0, "abcde");
        formats("ab de", CursorKeep.WRAP, 5, 0, "ab de");
        formats("abcde f", CursorKeep.WRAP, 5, 1, "abcde/f");
        formats("abcdef g", CursorKeep.WRAP, 5, 0, "abcdef g");
        formats("a bc/defghi jk", CursorKeep.WRAP, 5, 0, "a bc/defghi jk");
        formats("a bcde fghijklm n", CursorKeep.WRAP, 5, 2, "a/bcde/fghijklm n");
        formats("a bcdefghijkl m", CursorKeep.WRAP, 5, 1, "a/bcdefghijkl m");
        formats("abcdef gh ijk/lm nopq", CursorKeep.WRAP, 5, 1, "abcdef gh ijk/lm/nopq");
        formats("a b c d e f g h", CursorKeep.WRAP, 5, 2, "a b c/d e f/g h");
        formats("      ", CursorKeep.WRAP, 5, 1, "     /");
        formats(" abcdefgh", CursorKeep.WRAP, 5, 1, "/abcdefgh");
        formats(" abcde fghij", CursorKeep.WRAP, 5, 2, "/abcde/fghij");
        formats("ab cd/ef gh", CursorKeep.WRAP, 5, 0, "ab cd/ef gh");
        formats("one two three/go on now", CursorKeep.WRAP, 7, 2, "one two/three/go on/now");
        formats(" ".repeat(150), CursorKeep.WRAP, 5, 25, "     /".repeat(25));
        String wide = "abcdefghi abcdefghi abcdefghi abcdefghi ";
        formats(wide, CursorKeep.WRAP, 40, 0, wide);
        formats(wide + "a", CursorKeep.WRAP, 40, 1, wide.substring(0, 39) + "/a");
    }

    // ---- Promise 13

    private static void coming() {
        CursorKeep k = written("a  b  c");
        k.ask(0, CursorKeep.SPACES, 0);
        k.ask(0, CursorKeep.SPACES, 0);
        outside(k, () -> k.come(-1));
        outside(k, () -> k.come(2));
        outside(k, () -> k.come(FAR));
        outside(k, () -> k.come(LOW));
        due("formats may come in any order", k.come(1), 2);
        stateless(k, () -> k.come(1));
        due("the other finds them gone", k.come(0), 0);
        shows(k, 0, "a b c");
        k.ask(0, CursorKeep.SPACES, 0);
        k.drop(2);
        stateless(k, () -> k.come(2));
        CursorKeep m = written("a b");
        m.type(1, 0, ' ');
        m.ask(0, CursorKeep.ENDS, 0);
        m.come(0);
        m.undo(1);
        shows(m, 0, "a b");
        m.redo(1);
        shows(m, 0, "a b ");
        formatsStayWhenHandsUndo();
        formatsDoNotMixTheirLetters();
    }

    private static void formatsDoNotMixTheirLetters() {
        CursorKeep m = written("  a");
        m.ask(0, CursorKeep.SPACES, 0);
        m.ask(0, CursorKeep.CAPITALS, 0);
        m.ask(0, CursorKeep.WRAP, 5);
        m.moveTo(1, 0, 3);
        m.type(1, 0, '/');
        m.type(1, 0, 'b');
        m.ask(0, CursorKeep.CAPITALS, 0);
        m.type(0, 1, 'a');
        m.ask(1, CursorKeep.ENDS, 0);
        due("each its own changes", m.drop(0) * 1000 + m.drop(1) * 100 + m.drop(3) * 10 + m.drop(4), 1010);
        formatsForgetOtherFormats();
    }

    private static void formatsForgetOtherFormats() {
        CursorKeep k = written("a  /b");
        k.ask(0, CursorKeep.ENDS, 0);
        k.ask(0, CursorKeep.CAPITALS, 0);
        due("letters that go by the first", k.spared(0), 0);
        k.moveTo(1, 0, 2);
        k.erase(1, 0);
        due("are neighbours by the second", k.spared(1), 1);
        k.undo(1);
        due("and as they were", k.come(1), 2);
    }

    private static void formatsStayWhenHandsUndo() {
        CursorKeep k = written("ab");
        k.moveTo(1, 0, 0);
        k.ask(0, CursorKeep.CAPITALS, 0);
        due("a cursor at it spares no capital", k.come(0), 1);
        k.undo(0);
        k.undo(0);
        k.redo(0);
        shows(k, 0, "A");
    }

    // ---- Promise 16

    private static void sparing() {
        CursorKeep k = written("a  b");
        k.ask(0, CursorKeep.SPACES, 0);
        due("nothing is spared at first", k.spared(0), 0);
        k.moveTo(4, 0, 2);
        due("a cursor stands at it", k.spared(0), 1);
        k.moveTo(4, 0, 1);
        due("the cursor went on", k.spared(0), 0);
        for (int hand = 0; hand < 5; hand++) {
            int before = k.moveTo(hand, 0, 2);
            due("any hand's cursor", k.spared(0), 1);
            k.moveTo(hand, 0, before);
        }
        k.type(1, 1, 'a');
        k.type(1, 1, 'b');
        k.type(1, 1, 'c');
        k.moveTo(1, 1, 2);
        due("a cursor in another text", k.spared(0), 0);
        k.moveTo(1, 0, 3);
        k.erase(1, 0);
        due("the letter is gone", k.spared(0), 1);
        k.undo(1);
        due("the letter is back", k.spared(0), 0);
        k.moveTo(1, 0, 2);
        due("it is spared as it comes", k.come(0), 0);
        due("spared as it came", k.spared(0), 1);
        k.moveTo(1, 0, 0);
        due("spared as it came, still", k.spared(0), 1);
        shows(k, 0, "a  b");
        for (int bad : new int[] {-1, 1, FAR, LOW}) {
            outside(k, () -> k.spared(bad));
        }
        CursorKeep m = written("a bcdefg ");
        m.ask(0, CursorKeep.WRAP, 5);
        m.ask(0, CursorKeep.WRAP, 5);
        due("a cursor at it spares no line's end", m.moveTo(1, 0, 1) + m.come(0), 10);
        due("it has another character", m.spared(1), 1);
        due("and is spared", m.come(1), 0);
        shows(m, 0, "a/bcdefg ");
    }

    private static void neighboursOfSpared() {
        CursorKeep k = written("a   b   c");
        k.ask(0, CursorKeep.SPACES, 0);
        k.moveTo(1, 0, 3);
        k.type(1, 0, 'x');
        due("a new neighbour for both of a run", k.spared(0), 2);
        k.undo(1);
        k.moveTo(1, 0, 9);
        due("and the old one again", k.spared(0), 0);
        k.moveTo(1, 0, 3);
        k.erase(1, 0);
        k.moveTo(1, 0, 8);
        due("one that is to go is nobody's neighbour", k.spared(0), 1);
        k.moveTo(2, 0, 2);
        k.erase(2, 0);
        k.moveTo(2, 0, 7);
        due("the neighbour ahead has gone", k.spared(0), 2);
        k.undo(2);
        k.moveTo(2, 0, 4);
        k.erase(2, 0);
        due("the neighbour behind the first run has gone", k.spared(0), 2);
        k.undo(2);
        due("three of four do", k.come(0), 3);
        due("as they were then", k.spared(0), 1);
        shows(k, 0, "a b c");
        neighboursAtTheRims();
    }

    private static void neighboursAtTheRims() {
        CursorKeep k = written("a  ");
        k.ask(0, CursorKeep.ENDS, 0);
        k.type(1, 0, 'x');
        due("behind there was none", k.spared(0), 2);
        k.erase(1, 0);
        due("none is the same as none", k.spared(0), 0);
        k.type(1, 0, ' ');
        due("a space typed since is a neighbour", k.spared(0), 2);
        k.undo(1);
        k.ask(0, CursorKeep.CAPITALS, 0);
        due("a neighbour with another character is the same", k.come(1) * 10 + k.spared(0), 10);
        due("all go", k.come(0), 2);
        CursorKeep m = written("ab");
        m.ask(0, CursorKeep.CAPITALS, 0);
        m.moveTo(1, 0, 0);
        m.type(1, 0, ' ');
        due("ahead there was none", m.spared(0), 1);
        m.undo(1);
        m.undo(0);
        due("behind there was one", m.spared(0), 1);
        m.redo(0);
        due("as it was", m.come(0), 1);
    }

    // ---- Promise 14

    private static void dropping() {
        CursorKeep k = written("a  b  c");
        k.ask(0, CursorKeep.SPACES, 0);
        k.ask(0, CursorKeep.CAPITALS, 0);
        k.moveTo(1, 0, 2);
        due("drop answers all changes", k.drop(0), 2);
        due("all are spared", k.spared(0), 2);
        k.moveTo(1, 0, 0);
        due("all still are", k.spared(0), 2);
        shows(k, 0, "a  b  c");
        due("no version comes of it", k.version(0), 7);
        stateless(k, () -> k.drop(0));
        k.come(1);
        stateless(k, () -> k.drop(1));
        for (int bad : new int[] {-1, 2, FAR, LOW}) {
            outside(k, () -> k.drop(bad));
        }
    }

    // ---- Promise 15

    private static void states() {
        CursorKeep k = written("a");
        k.ask(0, 0, 0);
        k.ask(1, 1, 0);
        k.ask(2, 2, 0);
        due("waiting", k.state(0), CursorKeep.WAITING);
        k.come(1);
        k.drop(2);
        due("done, with nothing to do", k.state(1), CursorKeep.DONE);
        due("dropped", k.state(2), CursorKeep.DROPPED);
        due("still waiting", k.state(0), CursorKeep.WAITING);
        for (int bad : new int[] {-1, 3, FAR, LOW}) {
            outside(k, () -> k.state(bad));
        }
    }

    // ---- Promise 17

    private static void locking() {
        CursorKeep k = written("a");
        due("lock", k.lock(1, 0), true);
        stateless(k, () -> k.lock(0, 0));
        due("another text", k.lock(0, 1), true);
        due("a hand may lock two", k.lock(1, 2), true);
        due("unlock", k.lock(1, 0), false);
        due("another hand then", k.lock(0, 0), true);
        stateless(k, () -> k.lock(1, 0));
        due("others type on in a locked text", k.type(2, 0, 'b'), 2);
        for (int bad : new int[] {-1, 5, FAR, LOW}) {
            outside(k, () -> k.lock(bad, 0));
        }
        for (int bad : new int[] {-1, 3, FAR, LOW}) {
            outside(k, () -> k.lock(0, bad));
        }
    }

    // ---- Promise 18

    private static void saving() {
        CursorKeep k = written("a");
        k.ask(1, 0, 0);
        for (int bad : new int[] {-1, 5, FAR, LOW}) {
            outside(k, () -> k.save(bad, 0, 0));
        }
        for (int bad : new int[] {-1, 3, FAR, LOW}) {
            outside(k, () -> k.save(0, bad, 0));
        }
        for (int bad : new int[] {-2, 1, FAR, LOW}) {
            outside(k, () -> k.save(0, 0, bad));
        }
        illegal(k, () -> k.save(0, 0, 0));
        for (int i = 0; i < 60; i++) {
            due("number of a save", k.save(i % 5, 1, i % 2 == 0 ? NONE : 0), i);
        }
        due("all in the queue", k.queued(), 60);
        stateless(k, () -> k.save(0, 0, NONE));
        k.write();
        stateless(k, () -> k.save(0, 0, NONE));
        illegal(k, () -> k.save(0, 0, 0));
        outside(k, () -> k.save(0, 0, 1));
    }

    // ---- Promises 19 and 20

    private static void writing() {
        CursorKeep k = written("ab");
        k.ask(0, 0, 0);
        k.ask(0, 0, 0);
        k.save(0, 0, 0);
        due("it waits for its format", k.write(), NONE);
        k.come(0);
        k.lock(1, 0);
        due("it waits for another hand's lock", k.write(), NONE);
        due("and stays in the queue", k.queued(), 1);
        k.lock(1, 0);
        k.lock(0, 0);
        due("its own hand's lock is none", k.write(), 0);
        due("it left the queue", k.queued(), 0);
        due("nothing is left", k.write(), NONE);
        k.save(1, 0, 1);
        k.drop(1);
        due("the lock bars another hand", k.write(), NONE);
        k.lock(0, 0);
        due("a dropped format is waited for no more", k.write(), 1);
        k.save(2, 0, 0);
        due("a format that came long ago", k.write(), 2);
    }

    private static void writingInOrder() {
        CursorKeep k = written("ab");
        k.ask(0, 0, 0);
        k.save(0, 0, 0);
        k.save(0, 0, NONE);
        k.save(0, 1, NONE);
        k.save(0, 2, NONE);
        k.lock(3, 1);
        due("past those that cannot be written", k.write(), 3);
        due("those of a text go in order", k.write(), NONE);
        due("three are left", k.queued(), 3);
        k.lock(3, 1);
        due("the first that can be", k.write(), 2);
        k.drop(0);
        due("then by their numbers", k.write(), 0);
        due("and the next", k.write(), 1);
        due("none", k.write(), NONE);
    }

    // ---- Promises 21, 22 and 23

    private static void savedTexts() {
        CursorKeep k = written("abc");
        k.save(0, 0, NONE);
        due("a queued save has saved nothing", k.savedVersion(0), NONE);
        k.type(0, 0, 'd');
        k.moveTo(1, 0, 1);
        k.erase(1, 0);
        k.write();
        due("version as it was written", k.savedVersion(0), 5);
        due("length as it was written", k.savedLength(0), 3);
        due("letter as it was written", k.savedLetter(0, 0), 'b');
        k.undo(0);
        k.undo(0);
        due("saved version stays", k.savedVersion(0), 5);
        due("saved length stays", k.savedLength(0), 3);
        due("saved letter stays", k.savedLetter(0, 2), 'd');
        k.save(1, 0, NONE);
        k.write();
        due("a later save is kept instead", k.savedLength(0), 1);
        outside(k, () -> k.savedLetter(0, 1));
        outside(k, () -> k.savedLetter(0, -1));
        outside(k, () -> k.savedLetter(0, FAR));
        outside(k, () -> k.savedLetter(0, LOW));
        outside(k, () -> k.savedLetter(1, 0));
        for (int bad : new int[] {-1, 3, FAR, LOW}) {
            outside(k, () -> k.savedVersion(bad));
            outside(k, () -> k.savedLength(bad));
            outside(k, () -> k.savedLetter(bad, 0));
        }
        k.save(2, 2, NONE);
        k.write();
        due("an empty text is saved with its version", k.savedVersion(2), 0);
        due("and no letters", k.savedLength(2), 0);
        outside(k, () -> k.savedLetter(2, 0));
        CursorKeep full = written("ab".repeat(75));
        full.save(0, 0, NONE);
        full.write();
        due("a full text is saved whole", full.savedLength(0), 150);
        due("up to its last letter", full.savedLetter(0, 149), 'b');
        outside(full, () -> full.savedLetter(0, 150));
    }

    // ---- what the tests share

    private static CursorKeep written(String letters) {
        CursorKeep k = new CursorKeep();
        for (char c : letters.toCharArray()) {
            k.type(0, 0, c);
        }
        return k;
    }

    private static void shows(CursorKeep k, int text, String want) {
        StringBuilder got = new StringBuilder();
        StringBuilder anew = new StringBuilder();
        for (int i = 0; i < k.length(text); i++) {
            got.append(k.letter(text, i));
            anew.append(k.letterAnew(text, i));
        }
        same("text", got.toString(), want);
        same("text anew", anew.toString(), want);
    }

    private static String seen(CursorKeep k) {
        StringBuilder s = new StringBuilder();
        for (int text = 0; text < 3; text++) {
            s.append(k.version(text)).append(':');
            for (int i = 0; i < k.length(text); i++) {
                s.append(k.letter(text, i));
            }
            for (int hand = 0; hand < 5; hand++) {
                s.append(',').append(k.place(hand, text));
            }
            s.append(';').append(k.savedVersion(text)).append(':');
            for (int i = 0; i < k.savedLength(text); i++) {
                s.append(k.savedLetter(text, i));
            }
        }
        s.append('q').append(k.queued());
        for (int i = 0; i < formatsOf(k); i++) {
            s.append(' ').append(k.state(i)).append('/').append(k.spared(i));
        }
        return s.toString();
    }

    private static int formatsOf(CursorKeep k) {
        for (int i = 0; i < 1000; i++) {
            try {
                k.state(i);
            } catch (IndexOutOfBoundsException e) {
                return i;
            }
        }
        return 1000;
    }

    private static void outside(CursorKeep k, Call call) {
        refused(k, call, IndexOutOfBoundsException.class);
    }

    private static void illegal(CursorKeep k, Call call) {
        refused(k, call, IllegalArgumentException.class);
    }

    private static void stateless(CursorKeep k, Call call) {
        refused(k, call, IllegalStateException.class);
    }

    private static void refused(CursorKeep k, Call call, Class<?> want) {
        String before = seen(k);
        Object got = "nothing";
        try {
            call.run();
        } catch (RuntimeException e) {
            got = e.getClass();
            same("the class throws it itself", e.getStackTrace()[0].getClassName(), "CursorKeep");
        }
        same("thrown", got, want);
        same("all after a refusal", seen(k), before);
    }

    private static void due(String what, Object got, Object want) {
        same(what, got instanceof Character c ? Integer.valueOf(c) : got,
                want instanceof Character c ? Integer.valueOf(c) : want);
    }

    private static void same(String what, Object got, Object want) {
        looked++;
        if (!got.equals(want)) {
            wrong++;
            StackTraceElement[] at = new Throwable().getStackTrace();
            StringBuilder lines = new StringBuilder();
            for (int i = 1; i < Math.min(5, at.length); i++) {
                lines.append(' ').append(at[i].getLineNumber());
            }
            System.out.println("PromiseTest: " + what + ": " + got + ", due is " + want + ", lines" + lines);
        }
    }
}
