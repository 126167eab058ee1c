/** The edges that 'Formats' and promises 12 to 16 name, a test for each sentence. */
public final class FormatEdgeTest extends Checks {
    private static final int SPACES = CursorKeep.SPACES, ENDS = CursorKeep.ENDS;
    private static final int CAPITALS = CursorKeep.CAPITALS, WRAP = CursorKeep.WRAP;

    public static void main(String[] args) {
        mostFormats();
        mostFormatsCountTheEnded();
        askedAsItShowsThen();
        spaces();
        spacesByWhatShows();
        ends();
        capitals();
        capitalsOfEveryLetter();
        wrapByLengthOfTheLine();
        wrapByPlaceOfTheSpace();
        wrapEndsOfLines();
        wrapGoesOn();
        wrapWithoutASpace();
        wrapWidths();
        fullTexts();
        stateByState();
        comingOrDroppingTwice();
        answersOfComeAndDrop();
        sparedByState();
        sparedWhenGone();
        sparedWithAnotherCharacter();
        sparedByCursors();
        sparedByCursorsOnlyIfToGo();
        sparedByNeighbours();
        noneIsTheSameAsNone();
        neighboursAreThere();
        neighboursAreNotToGo();
        neighboursToGoByOtherFormats();
        neighboursThatAreNotToGoButToChange();
        neighboursAreLettersNotCharacters();
        allAtOnce();
        formatsStay();
        end("FormatEdgeTest");
    }

    /** With all cursors at the end, so that no letter that is to go has one at it. */
    private static void formatted(String before, int kind, int number, int changes, String after) {
        Keep k = Keep.written(before);
        int format = k.ask(0, kind, number);
        due("spared of '" + before + "'", k.spared(format), 0);
        answers("changes had of '" + before + "'", k, x -> x.drop(format), changes);
        due("changes done of '" + before + "'", k.come(format), changes);
        due("version of '" + before + "'", k.version(0), before.length() + (changes > 0 ? 1 : 0));
        shows(k, 0, after);
    }

    private static void wrapped(String before, int number, String after) {
        int changes = 0;
        for (int i = 0; i < before.length(); i++) {
            changes += before.charAt(i) == after.charAt(i) ? 0 : 1;
        }
        formatted(before, WRAP, number, changes, after);
    }

    private static Keep asked(String letters, int kind, int number) {
        Keep k = Keep.written(letters);
        k.ask(0, kind, number);
        return k;
    }

    // ---- how many

    private static void mostFormats() {
        sentence("Formats are numbered from 0, at most 60");
        Keep k = new Keep();
        for (int i = 0; i < 60; i++) {
            due("number " + i, k.ask(i % 3, i % 4, i % 4 == WRAP ? 5 : 0), i);
        }
        for (int text = 0; text < 3; text++) {
            int any = text;
            stateless(k, x -> x.ask(any, SPACES, 0));
            stateless(k, x -> x.ask(any, WRAP, 40));
        }
        due("the last", k.come(59), 0);
        outside(k, x -> x.come(60));
    }

    private static void mostFormatsCountTheEnded() {
        sentence("Formats are numbered from 0, at most 60");
        Keep k = new Keep();
        for (int i = 0; i < 60; i++) {
            due("number " + i, k.ask(0, ENDS, 0), i);
            if (i % 2 == 0) {
                k.come(i);
            } else {
                k.drop(i);
            }
        }
        stateless(k, x -> x.ask(0, ENDS, 0));
    }

    private static void askedAsItShowsThen() {
        sentence("One is asked for a text as it shows then");
        Keep k = new Keep();
        k.ask(0, CAPITALS, 0);
        k.type(0, 0, 'a');
        due("a letter typed since", k.come(0), 0);
        k.ask(0, ENDS, 0);
        k.type(0, 0, ' ');
        due("a space typed since", k.come(1), 0);
        k.ask(0, ENDS, 0);
        k.undo(0);
        due("one that went since", k.drop(2), 1);
        k.ask(0, ENDS, 0);
        k.redo(0);
        due("one that came back since", k.drop(3), 0);
        k.ask(1, ENDS, 0);
        due("of another text", k.drop(4), 0);
        shows(k, 0, "a ");
    }

    // ---- SPACES and ENDS

    private static void spaces() {
        sentence("each space that comes right behind a space is to go");
        formatted("", SPACES, 0, 0, "");
        formatted(" ", SPACES, 0, 0, " ");
        formatted("  ", SPACES, 0, 1, " ");
        formatted("   ", SPACES, 0, 2, " ");
        formatted("a b", SPACES, 0, 0, "a b");
        formatted("a  b", SPACES, 0, 1, "a b");
        formatted(" /", SPACES, 0, 0, " /");
        formatted("/ ", SPACES, 0, 0, "/ ");
        formatted(" / ", SPACES, 0, 0, " / ");
        formatted("  /  ", SPACES, 0, 2, " / ");
        formatted("aa//00", SPACES, 0, 0, "aa//00");
        formatted("   ab    c  ", SPACES, 0, 6, " ab c ");
    }

    private static void spacesByWhatShows() {
        sentence("each space that comes right behind a space is to go");
        Keep k = Keep.written("a x b");
        k.moveTo(1, 0, 3);
        k.erase(1, 0);
        k.moveTo(1, 0, 4);
        k.ask(0, SPACES, 0);
        due("behind a gone letter", k.come(0), 1);
        shows(k, 0, "a b");
        Keep gone = Keep.written("a  b");
        gone.moveTo(1, 0, 3);
        gone.erase(1, 0);
        gone.ask(0, SPACES, 0);
        due("behind a gone space", gone.drop(0), 0);
        Keep second = asked("a  b", SPACES, 0);
        second.moveTo(1, 0, 1);
        due("the first one is not to go", second.spared(0), 0);
        second.moveTo(1, 0, 2);
        due("the second one is", second.spared(0), 1);
    }

    private static void ends() {
        sentence("each space is to go behind which there are only spaces up to the next /, or the end");
        formatted("", ENDS, 0, 0, "");
        formatted(" ", ENDS, 0, 1, "");
        formatted("   ", ENDS, 0, 3, "");
        formatted("a", ENDS, 0, 0, "a");
        formatted(" a", ENDS, 0, 0, " a");
        formatted("a ", ENDS, 0, 1, "a");
        formatted("/", ENDS, 0, 0, "/");
        formatted(" /", ENDS, 0, 1, "/");
        formatted("/ ", ENDS, 0, 1, "/");
        formatted("  /  /  ", ENDS, 0, 6, "//");
        formatted("a b/c d", ENDS, 0, 0, "a b/c d");
        formatted("a  b  /c", ENDS, 0, 2, "a  b/c");
        formatted("a /b", ENDS, 0, 1, "a/b");
        formatted("a  b  / c /  /d ", ENDS, 0, 6, "a  b/ c//d");
        Keep k = Keep.written("a x");
        k.undo(0);
        k.ask(0, ENDS, 0);
        due("ahead of a gone letter", k.come(0), 1);
        shows(k, 0, "a");
        Keep line = Keep.written("a /b");
        line.moveTo(1, 0, 3);
        line.erase(1, 0);
        line.ask(0, ENDS, 0);
        due("ahead of a gone end of the line", line.drop(0), 0);
    }

    // ---- CAPITALS

    private static void capitals() {
        sentence("A line begins at the beginning, and behind each /");
        formatted("", CAPITALS, 0, 0, "");
        formatted("a", CAPITALS, 0, 1, "A");
        formatted("ab", CAPITALS, 0, 1, "Ab");
        formatted("/", CAPITALS, 0, 0, "/");
        formatted("a/", CAPITALS, 0, 1, "A/");
        formatted("/a", CAPITALS, 0, 1, "/A");
        formatted("//a", CAPITALS, 0, 1, "//A");
        formatted(" a/ b", CAPITALS, 0, 0, " a/ b");
        formatted("a b/c d", CAPITALS, 0, 2, "A b/C d");
        formatted("abc abc/z/A/ a/0a//q", CAPITALS, 0, 3, "Abc abc/Z/A/ a/0a//Q");
        Keep k = Keep.written("xa/xb");
        for (int place : new int[] {4, 1}) {
            k.moveTo(1, 0, place);
            k.erase(1, 0);
        }
        k.ask(0, CAPITALS, 0);
        due("behind gone letters", k.come(0), 2);
        shows(k, 0, "A/B");
        Keep gone = Keep.written("a/b");
        gone.moveTo(1, 0, 2);
        gone.erase(1, 0);
        gone.ask(0, CAPITALS, 0);
        due("behind a gone end of the line", gone.come(0), 1);
        shows(gone, 0, "Ab");
    }

    private static void capitalsOfEveryLetter() {
        sentence("the first letter of each line, if it is one of a to z, is to become the same of A to Z");
        for (char sign = ' '; sign <= 'z'; sign++) {
            if (Character.isLetterOrDigit(sign) || sign == ' ') {
                boolean small = sign >= 'a' && sign <= 'z';
                String line = sign + "z";
                String capital = Character.toUpperCase(sign) + "z";
                formatted(line + "/" + line, CAPITALS, 0, small ? 2 : 0, capital + "/" + capital);
            }
        }
    }

    // ---- WRAP

    private static void wrapByLengthOfTheLine() {
        sentence("has more than n letters");
        wrapped("", 5, "");
        wrapped("ab c", 5, "ab c");
        wrapped("ab cd", 5, "ab cd");
        wrapped("ab cde", 5, "ab/cde");
        wrapped(" abcd", 5, " abcd");
        wrapped(" abcde", 5, "/abcde");
        Keep k = Keep.written("axb cde");
        k.moveTo(1, 0, 2);
        k.erase(1, 0);
        k.ask(0, WRAP, 5);
        due("six letters, without the gone one", k.drop(0), 1);
        k.moveTo(1, 0, 1);
        k.erase(1, 0);
        k.ask(0, WRAP, 5);
        due("five letters, without the gone ones", k.drop(1), 0);
    }

    private static void wrapByPlaceOfTheSpace() {
        sentence("the last space among its first n + 1 letters, if there is one, is to become /");
        wrapped("abcd e", 5, "abcd/e");
        wrapped("abcde ", 5, "abcde/");
        wrapped("abcde f", 5, "abcde/f");
        wrapped("abcdef ", 5, "abcdef ");
        wrapped("abcdef g", 5, "abcdef g");
        wrapped(" bcdef", 5, "/bcdef");
        wrapped("a b cd", 5, "a b/cd");
        wrapped("a b cdefgh i", 5, "a b/cdefgh i");
        wrapped("a    b", 5, "a   /b");
        wrapped("      ", 5, "     /");
    }

    private static void wrapEndsOfLines() {
        sentence("a line, which ends ahead of the next /, or with the text");
        wrapped("ab cd/", 5, "ab cd/");
        wrapped("ab cde/", 5, "ab/cde/");
        wrapped("a/b cde", 5, "a/b cde");
        wrapped("a/b cdef", 5, "a/b/cdef");
        wrapped("ab cd/ab cd", 5, "ab cd/ab cd");
        wrapped("ab cd/ab cde", 5, "ab cd/ab/cde");
        wrapped("///////", 5, "///////");
        wrapped("/a bcdef/", 5, "/a/bcdef/");
    }

    private static void wrapGoesOn() {
        sentence("and the next line begins behind it");
        wrapped("ab cd ef gh", 5, "ab cd/ef gh");
        wrapped("ab cd ef ghi", 5, "ab cd/ef/ghi");
        wrapped("abcde fghij", 5, "abcde/fghij");
        wrapped("abcde fghij ", 5, "abcde/fghij/");
        wrapped("abcde fghij k", 5, "abcde/fghij/k");
        wrapped("a b c d e f g", 5, "a b c/d e f/g");
        wrapped("abcde fghij/k lmnop", 5, "abcde/fghij/k/lmnop");
        wrapped("abcde  fghijk", 5, "abcde//fghijk");
        wrapped(" abcde fghij", 5, "/abcde/fghij");
        wrapped("a bcde fghijklm n", 5, "a/bcde/fghijklm n");
        wrapped("one two three/go on now", 7, "one two/three/go on/now");
        wrapped("a         b", 5, "a    /    b");
        wrapped("a          b", 5, "a    /    /b");
        wrapped("a           b", 5, "a    /     /b");
    }

    private static void wrapWithoutASpace() {
        sentence("otherwise the next line begins behind the next /");
        wrapped("abcdefgh", 5, "abcdefgh");
        wrapped("abcdefg hi jk", 5, "abcdefg hi jk");
        wrapped("abcdefg hi jk/ab cdef", 5, "abcdefg hi jk/ab/cdef");
        wrapped("abcde fghijk lm", 5, "abcde/fghijk lm");
        wrapped("abcde fghijk lm no/p qrstu", 5, "abcde/fghijk lm no/p/qrstu");
        wrapped("ab c/de fg/hi jk lm", 5, "ab c/de fg/hi jk/lm");
        wrapped("a bcdefghijkl m", 5, "a/bcdefghijkl m");
        wrapped("abcdef gh ijk/lm nopq", 5, "abcdef gh ijk/lm/nopq");
        wrapped("ab c/defghi", 5, "ab c/defghi");
        wrapped("ab cd e/fghijk", 5, "ab cd/e/fghijk");
    }

    private static void wrapWidths() {
        sentence("WRAP, with a number n, 5 to 40");
        for (int n = 5; n <= 40; n++) {
            String wide = "a".repeat(n);
            wrapped(wide + " ", n, wide + "/");
            wrapped(wide + "a b", n, wide + "a b");
            wrapped(" " + wide, n, "/" + wide);
            wrapped(" " + wide.substring(1), n, " " + wide.substring(1));
        }
    }

    private static void fullTexts() {
        sentence("at most 150 are ever typed in a text");
        formatted(" ".repeat(150), SPACES, 0, 149, " ");
        formatted(" ".repeat(150), ENDS, 0, 150, "");
        formatted("a/".repeat(75), CAPITALS, 0, 75, "A/".repeat(75));
        formatted(" ".repeat(150), WRAP, 5, 25, "     /".repeat(25));
        formatted("a".repeat(109) + "/" + "b ".repeat(20), WRAP, 40, 0, "a".repeat(109) + "/" + "b ".repeat(20));
        formatted("a".repeat(108) + "/" + "b ".repeat(20) + "c", WRAP, 40, 1,
                "a".repeat(108) + "/" + "b ".repeat(19) + "b/c");
    }

    // ---- states

    private static void stateByState() {
        sentence("A format is WAITING until it comes, or is dropped");
        Keep k = asked("a  b", SPACES, 0);
        k.ask(0, SPACES, 0);
        k.ask(0, ENDS, 0);
        k.ask(1, ENDS, 0);
        due("asked", k.state(0), CursorKeep.WAITING);
        k.spared(0);
        k.save(0, 0, 0);
        k.write();
        due("looked at, and waited for", k.state(0), CursorKeep.WAITING);
        k.come(0);
        due("came", k.state(0), CursorKeep.DONE);
        due("the others wait", k.state(1) * 100 + k.state(2) * 10 + k.state(3), 0);
        k.drop(1);
        due("dropped", k.state(1), CursorKeep.DROPPED);
        k.come(2);
        due("came with no change", k.state(2), CursorKeep.DONE);
        k.drop(3);
        due("dropped with no change", k.state(3), CursorKeep.DROPPED);
        due("the first stays", k.state(0), CursorKeep.DONE);
    }

    private static void comingOrDroppingTwice() {
        sentence("Throws `IllegalStateException` if it is not WAITING");
        for (String letters : new String[] {"", "a  b"}) {
            Keep k = asked(letters, SPACES, 0);
            k.ask(0, SPACES, 0);
            k.come(0);
            k.drop(1);
            for (int i = 0; i < 2; i++) {
                int format = i;
                stateless(k, x -> x.come(format));
                stateless(k, x -> x.drop(format));
            }
        }
    }

    private static void answersOfComeAndDrop() {
        sentence("Returns how many changes it does");
        Keep k = asked("a  b   c", SPACES, 0);
        answers("come, none spared", k, x -> x.come(0), 3);
        k.moveTo(1, 0, 2);
        answers("come, one spared", k, x -> x.come(0), 2);
        answers("drop, one spared", k, x -> x.drop(0), 3);
        k.moveTo(2, 0, 5);
        k.moveTo(3, 0, 6);
        answers("come, all spared", k, x -> x.come(0), 0);
        answers("drop, all spared", k, x -> x.drop(0), 3);
        shows(k, 0, "a  b   c");
    }

    private static void sparedByState() {
        sentence("if it is WAITING, as they would be now; if it came, as they were then");
        Keep k = asked("a  b   c", SPACES, 0);
        k.ask(0, SPACES, 0);
        due("none now", k.spared(0), 0);
        k.moveTo(1, 0, 2);
        due("one now", k.spared(0), 1);
        k.come(0);
        due("one then", k.spared(0), 1);
        due("all of the other now", k.spared(1), 3);
        k.moveTo(1, 0, 0);
        due("one then, still", k.spared(0), 1);
        due("all but one of the other now", k.spared(1), 2);
        sentence("all of them if it was dropped");
        k.drop(1);
        due("all", k.spared(1), 3);
        Keep none = asked("a  b", SPACES, 0);
        none.drop(0);
        due("all, though none was spared", none.spared(0), 1);
        Keep empty = asked("a", SPACES, 0);
        empty.drop(0);
        due("all of none", empty.spared(0), 0);
        Keep done = asked("a  b", SPACES, 0);
        done.come(0);
        due("none then, though the letters are gone now", done.spared(0), 0);
    }

    // ---- what is spared

    private static void sparedWhenGone() {
        sentence("the letter is gone, or has another character than it had");
        Keep k = asked("a  b", SPACES, 0);
        k.moveTo(1, 0, 3);
        k.erase(1, 0);
        due("gone", k.spared(0), 1);
        answers("gone, so nothing is done", k, x -> x.come(0), 0);
        k.undo(1);
        due("back", k.spared(0), 0);
        answers("back, so it goes", k, x -> x.come(0), 1);
        Keep capital = asked("ab", CAPITALS, 0);
        capital.moveTo(1, 0, 1);
        capital.erase(1, 0);
        due("gone", capital.spared(0), 1);
        capital.come(0);
        capital.undo(1);
        shows(capital, 0, "ab");
    }

    private static void sparedWithAnotherCharacter() {
        sentence("the letter is gone, or has another character than it had");
        Keep twice = asked("a", CAPITALS, 0);
        twice.ask(0, CAPITALS, 0);
        due("the same character", twice.spared(1), 0);
        twice.come(0);
        due("a capital by now", twice.spared(1), 1);
        due("no change is left", twice.come(1), 0);
        due("and no version", twice.version(0), 2);
        Keep wrap = asked("abcd  ef", WRAP, 5);
        wrap.ask(0, SPACES, 0);
        wrap.ask(0, WRAP, 6);
        due("the second space becomes an end", wrap.come(0), 1);
        due("so it is not to go", wrap.spared(1) * 10 + wrap.come(1), 10);
        due("nor to become an end again", wrap.spared(2) * 10 + wrap.come(2), 10);
        shows(wrap, 0, "abcd /ef");
    }

    private static void sparedByCursors() {
        sentence("it is to go, and a cursor stands at it");
        for (int hand = 0; hand < 5; hand++) {
            Keep k = asked("a  b", SPACES, 0);
            k.ask(0, ENDS, 0);
            k.write(hand, 1, "abcd");
            k.moveTo(hand, 1, 2);
            due("no cursor at it, but one of another text", k.spared(0), 0);
            k.moveTo(hand, 0, 1);
            due("a cursor just ahead of it", k.spared(0), 0);
            k.moveTo(hand, 0, 2);
            due("a cursor at it", k.spared(0), 1);
            answers("it stays", k, x -> x.come(0), 0);
            k.moveTo(hand, 0, 3);
            due("a cursor just behind it", k.spared(0), 0);
            answers("it goes", k, x -> x.come(0), 1);
            Keep last = asked("a ", ENDS, 0);
            due("cursors at the end are not at the last letter", last.spared(0), 0);
            last.moveTo(hand, 0, 1);
            due("now one is", last.spared(0), 1);
            Keep first = asked(" ", ENDS, 0);
            first.moveTo(hand, 0, 0);
            due("a cursor at the first letter", first.spared(0), 1);
        }
    }

    private static void sparedByCursorsOnlyIfToGo() {
        sentence("it is to go, and a cursor stands at it");
        Keep capital = asked("ab", CAPITALS, 0);
        Keep wrap = asked("ab cde", WRAP, 5);
        for (int hand = 0; hand < 5; hand++) {
            capital.moveTo(hand, 0, 0);
            wrap.moveTo(hand, 0, 2);
        }
        due("cursors spare no capital", capital.spared(0) * 10 + capital.come(0), 1);
        shows(capital, 0, "Ab");
        due("cursors spare no end of a line", wrap.spared(0) * 10 + wrap.come(0), 1);
        shows(wrap, 0, "ab/cde");
        due("and stay", capital.place(3, 0) * 10 + wrap.place(3, 0), 2);
    }

    private static void sparedByNeighbours() {
        sentence("its neighbours are others than they were");
        for (int kind = 0; kind < 4; kind++) {
            String word = kind == SPACES ? "a  b" : kind == ENDS ? "a / b" : kind == CAPITALS ? "/ab" : "ab cde";
            int changed = kind == CAPITALS ? 1 : kind == SPACES ? 2 : kind == ENDS ? 1 : 2;
            Keep k = asked(word, kind, kind == WRAP ? 5 : 0);
            due("the same in " + word, k.spared(0), 0);
            k.moveTo(1, 0, changed);
            k.type(1, 0, 'x');
            k.moveTo(1, 0, 0);
            due("another just ahead in " + word, k.spared(0), 1);
            k.undo(1);
            due("the same again in " + word, k.spared(0), 0);
            k.moveTo(1, 0, changed + 1);
            k.type(1, 0, 'x');
            due("another just behind in " + word, k.spared(0), 1);
            answers("so it stays in " + word, k, x -> x.come(0), 0);
            k.undo(1);
            due("the same once more in " + word, k.spared(0), 0);
            k.moveTo(1, 0, changed + 2);
            k.type(1, 0, 'x');
            due("another further behind in " + word, k.spared(0), 0);
            answers("so it comes in " + word, k, x -> x.come(0), 1);
        }
    }

    private static void noneIsTheSameAsNone() {
        sentence("(none counts as the same as none)");
        Keep k = asked("a", CAPITALS, 0);
        due("none ahead, none behind", k.spared(0), 0);
        k.moveTo(1, 0, 0);
        k.type(1, 0, 'x');
        due("one ahead", k.spared(0), 1);
        k.undo(1);
        due("none ahead again", k.spared(0), 0);
        k.type(2, 0, 'x');
        due("one behind", k.spared(0), 1);
        k.undo(2);
        due("none behind again", k.come(0), 1);
        Keep two = Keep.written("xay");
        two.moveTo(1, 0, 1);
        two.erase(1, 0);
        two.ask(0, CAPITALS, 0);
        due("none ahead, one behind", two.spared(0), 0);
        two.undo(1);
        due("one ahead", two.spared(0), 1);
        two.redo(1);
        two.undo(0);
        due("none behind", two.spared(0), 1);
        two.redo(0);
        due("as it was", two.come(0), 1);
        shows(two, 0, "Ay");
        noneIsNotTheFirstLetter();
    }

    /** The first letter that was typed is a letter like any other, whatever number it has. */
    private static void noneIsNotTheFirstLetter() {
        for (int place = 0; place <= 1; place++) {
            Keep k = new Keep();
            k.type(1, 0, 'z');
            k.moveTo(0, 0, place);
            k.type(0, 0, 'a');
            k.undo(1);
            k.ask(0, CAPITALS, 0);
            due("none ahead, none behind", k.spared(0), 0);
            k.redo(1);
            due("one " + (place == 0 ? "behind" : "ahead"), k.spared(0), 1);
            k.undo(1);
            due("none again", k.come(0), 1);
        }
    }

    private static void neighboursAreThere() {
        sentence("of those that are there");
        Keep k = Keep.written("axx  yyb");
        for (int place : new int[] {7, 6, 3, 2}) {
            k.moveTo(1, 0, place);
            k.erase(1, 0);
        }
        k.moveTo(1, 0, 4);
        k.ask(0, SPACES, 0);
        due("gone letters between are none", k.spared(0), 0);
        k.moveTo(2, 0, 1);
        k.type(2, 0, 'z');
        k.erase(2, 0);
        due("one that came and went is none", k.spared(0), 0);
        k.undo(1);
        due("one ahead of the first space is no neighbour of the second", k.spared(0), 0);
        k.undo(1);
        k.undo(1);
        due("one behind came back", k.spared(0), 1);
        k.redo(1);
        due("and went", k.come(0), 1);
    }

    private static void neighboursAreNotToGo() {
        sentence("and that are not to go by this format");
        Keep k = asked("a   b", SPACES, 0);
        answers("the one behind goes", k, x -> x.moveTo(1, 0, 4) + x.erase(1, 0) + x.spared(0), 5 + 3 + 1);
        answers("the one ahead goes", k, x -> x.moveTo(1, 0, 3) + x.erase(1, 0) + x.moveTo(1, 0, 4) + x.spared(0),
                5 + 2 + 2 + 1);
        answers("a cursor spares the one ahead", k, x -> x.moveTo(1, 0, 2) + x.spared(0), 5 + 1);
        answers("a cursor spares the one behind", k, x -> x.moveTo(1, 0, 3) + x.spared(0), 5 + 1);
        answers("the other comes then", k, x -> x.moveTo(1, 0, 3) + x.come(0), 5 + 1);
        answers("the first space is no such letter", k,
                x -> x.moveTo(1, 0, 2) + x.erase(1, 0) + x.moveTo(1, 0, 4) + x.spared(0), 5 + 1 + 1 + 2);
        answers("nor is a space that was typed since", k,
                x -> x.moveTo(1, 0, 3) + x.type(1, 0, ' ') + x.moveTo(1, 0, 6) + x.spared(0), 5 + 4 + 4 + 2);
        neighboursAreNotToGoEvenIfSpared();
    }

    /** What spares the going of a letter makes it no neighbour of another that is to go. */
    private static void neighboursAreNotToGoEvenIfSpared() {
        Keep end = asked("abc   ef", SPACES, 0);
        end.ask(0, WRAP, 5);
        due("the third space becomes an end", end.come(1), 1);
        due("so it is spared alone", end.spared(0), 1);
        due("the second one goes", end.come(0), 1);
        shows(end, 0, "abc /ef");
        Keep back = asked("a    b", SPACES, 0);
        back.moveTo(1, 0, 4);
        back.erase(1, 0);
        due("one went", back.spared(0), 2);
        back.moveTo(1, 0, 2);
        back.undo(1);
        due("it came back, and a cursor stands at the one ahead", back.spared(0), 1);
        due("the two behind go", back.come(0), 2);
        shows(back, 0, "a  b");
    }

    private static void neighboursToGoByOtherFormats() {
        sentence("and that are not to go by this format");
        Keep k = asked("a  ", ENDS, 0);
        k.ask(0, CAPITALS, 0);
        k.ask(0, SPACES, 0);
        due("they are to go by the first", k.spared(0), 0);
        due("but not by the second", k.spared(1), 0);
        due("the second space goes by SPACES", k.come(2), 1);
        due("the first is still the neighbour of the capital", k.spared(1), 0);
        due("the first goes by ENDS", k.come(0), 1);
        due("so the capital is spared", k.come(1), 0);
        shows(k, 0, "a");
        Keep first = Keep.written(" ");
        first.moveTo(1, 0, 0);
        first.type(1, 0, 'a');
        first.ask(0, ENDS, 0);
        first.ask(0, CAPITALS, 0);
        first.undo(0);
        due("the first letter that was typed", first.spared(1), 1);
    }

    private static void neighboursThatAreNotToGoButToChange() {
        sentence("and that are not to go by this format");
        Keep k = asked("abcde  fghijk", WRAP, 5);
        due("both are to become ends of lines", k.spared(0), 0);
        k.moveTo(1, 0, 7);
        k.erase(1, 0);
        due("one went, and was the other's neighbour", k.spared(0), 2);
        k.undo(1);
        due("both do", k.come(0), 2);
    }

    private static void neighboursAreLettersNotCharacters() {
        sentence("its neighbours are others than they were");
        Keep k = asked("a ", ENDS, 0);
        k.ask(0, CAPITALS, 0);
        due("the neighbour becomes a capital", k.come(1), 1);
        due("it is the same letter", k.come(0), 1);
        Keep like = asked("/ab", CAPITALS, 0);
        like.undo(0);
        like.type(0, 0, 'b');
        due("a like letter is another one", like.spared(0), 1);
        Keep ahead = asked("/ab", CAPITALS, 0);
        ahead.moveTo(1, 0, 1);
        ahead.erase(1, 0);
        ahead.type(1, 0, '/');
        due("a like letter ahead is another one", ahead.spared(0), 1);
    }

    private static void allAtOnce() {
        sentence("it does all of its changes that are not spared, all at once");
        Keep k = asked("a/b/c", CAPITALS, 0);
        k.moveTo(1, 0, 3);
        k.type(1, 0, 'x');
        due("those that are not spared", k.come(0), 2);
        due("once by a call", k.version(0), 7);
        shows(k, 0, "A/bx/C");
        Keep wrap = asked("a b c d e f g", WRAP, 5);
        due("one does not spare the next", wrap.come(0), 2);
        Keep spaces = asked("a     b", SPACES, 0);
        due("nor do those that go", spaces.come(0), 4);
        shows(spaces, 0, "a b");
    }

    private static void formatsStay() {
        sentence("each hand undoes what it has typed and erased, while formats stay");
        Keep k = asked("a  b", SPACES, 0);
        k.ask(0, CAPITALS, 0);
        k.come(0);
        k.come(1);
        k.undo(0);
        shows(k, 0, "A ");
        k.undo(0);
        shows(k, 0, "A ");
        k.undo(0);
        k.undo(0);
        shows(k, 0, "");
        k.redo(0);
        shows(k, 0, "A");
        stateless(k, x -> x.undo(1));
    }
}
