import java.util.function.IntFunction;

/**
 * What has a range, on either side of each bound: hands, texts, places, letters, kinds, numbers,
 * formats; and which exception comes first where two apply.
 */
public final class RangeTest extends Checks {
    private static final int HANDS = 5, TEXTS = 3;

    public static void main(String[] args) {
        handsOfActs();
        handsOfOtherCalls();
        textsOfActs();
        textsOfTexts();
        textsOfFormatsAndSaves();
        everyHandHasACursorInEveryText();
        lettersTyped();
        placesToMoveTo();
        placesOfLetters();
        placesOfSavedLetters();
        kinds();
        numbers();
        formatsOfCalls();
        formatsToWaitFor();
        firstExceptionOfType();
        firstExceptionOfEraseAndLock();
        firstExceptionOfAsk();
        firstExceptionOfSave();
        end("RangeTest");
    }

    /** Every hand has typed in every text, has an act to undo and one to redo, and every text is saved. */
    private static Keep ready() {
        Keep k = new Keep();
        for (int hand = 0; hand < HANDS; hand++) {
            for (int text = 0; text < TEXTS; text++) {
                k.type(hand, text, (char) ('a' + hand));
            }
            k.type(hand, 2, 'z');
            k.undo(hand);
        }
        for (int text = 0; text < TEXTS; text++) {
            k.save(0, text, NONE);
            k.write();
        }
        return k;
    }

    /** From the first to the last the calls are answered, just below and above they are refused. */
    private static void range(String what, Keep k, int first, int last, IntFunction<Keep.Call> call, Object answer) {
        for (int i = first; i <= last; i++) {
            answers(what + " of " + i, k, call.apply(i), answer);
        }
        for (int i : new int[] {first - 1, last + 1, LOW, FAR}) {
            outside(k, call.apply(i));
        }
    }

    private static void hands(String what, IntFunction<Keep.Call> call, Object answer) {
        range(what + ", hand", ready(), 0, HANDS - 1, call, answer);
    }

    private static void texts(String what, IntFunction<Keep.Call> call, Object answer) {
        range(what + ", text", ready(), 0, TEXTS - 1, call, answer);
    }

    private static void handsOfActs() {
        sentence("There are the texts 0 to 2 and the hands 0 to 4");
        hands("type", hand -> x -> x.type(hand, 0, 'z'), 6);
        hands("erase", hand -> x -> x.erase(hand, 0), 4);
        hands("moveTo", hand -> x -> x.moveTo(hand, 0, 0), 5);
        hands("undo", hand -> x -> x.undo(hand), 2);
        hands("redo", hand -> x -> x.redo(hand), 2);
    }

    private static void handsOfOtherCalls() {
        sentence("There are the texts 0 to 2 and the hands 0 to 4");
        hands("place", hand -> x -> x.place(hand, 0), 5);
        hands("lock", hand -> x -> x.lock(hand, 0), true);
        hands("save", hand -> x -> x.save(hand, 0, NONE), 3);
    }

    private static void textsOfActs() {
        sentence("There are the texts 0 to 2 and the hands 0 to 4");
        texts("type", text -> x -> x.type(0, text, 'z'), 6);
        texts("erase", text -> x -> x.erase(0, text), 4);
        texts("moveTo", text -> x -> x.moveTo(0, text, 0), 5);
    }

    private static void textsOfTexts() {
        sentence("There are the texts 0 to 2 and the hands 0 to 4");
        texts("place", text -> x -> x.place(0, text), 5);
        texts("length", text -> x -> x.length(text), 5);
        texts("letter", text -> x -> x.letter(text, 0), 'a');
        texts("letterAnew", text -> x -> x.letterAnew(text, 0), 'a');
        // Two more for each hand stand in text 2, of the letter that was typed and undone.
        texts("version", text -> x -> x.version(text) - (text == 2 ? 10 : 0), 5);
    }

    private static void textsOfFormatsAndSaves() {
        sentence("There are the texts 0 to 2 and the hands 0 to 4");
        texts("ask", text -> x -> x.ask(text, CursorKeep.SPACES, 0), 0);
        texts("lock", text -> x -> x.lock(0, text), true);
        texts("save", text -> x -> x.save(0, text, NONE), 3);
        texts("savedVersion", text -> x -> x.savedVersion(text) - (text == 2 ? 10 : 0), 5);
        texts("savedLength", text -> x -> x.savedLength(text), 5);
        texts("savedLetter", text -> x -> x.savedLetter(text, 4), 'e');
    }

    private static void everyHandHasACursorInEveryText() {
        sentence("Each hand has a cursor in each text");
        Keep k = new Keep();
        for (int text = 0; text < TEXTS; text++) {
            k.write(text, text, "abcdefghijklmno");
        }
        for (int hand = 0; hand < HANDS; hand++) {
            for (int text = 0; text < TEXTS; text++) {
                k.moveTo(hand, text, hand * TEXTS + text);
            }
        }
        for (int hand = 0; hand < HANDS; hand++) {
            for (int text = 0; text < TEXTS; text++) {
                due("place of hand " + hand + " in text " + text, k.place(hand, text), hand * TEXTS + text);
            }
        }
    }

    private static void lettersTyped() {
        sentence("a to z, A to Z, 0 to 9, a space, or /");
        for (int sign = 0; sign <= Character.MAX_VALUE; sign++) {
            boolean typed = sign >= 'a' && sign <= 'z' || sign >= 'A' && sign <= 'Z' || sign >= '0' && sign <= '9'
                    || sign == ' ' || sign == '/';
            due("whether " + sign + " is typed", isTyped((char) sign), typed);
        }
        for (char edge : "azAZ09 /".toCharArray()) {
            Keep k = new Keep();
            due("type " + edge, k.type(0, 0, edge), 1);
            shows(k, 0, String.valueOf(edge));
        }
        Keep k = ready();
        for (char edge : "`{@[.:\u001f!".toCharArray()) {
            illegal(k, x -> x.type(0, 0, edge));
        }
        illegal(k, x -> x.type(0, 0, (char) 0));
        illegal(k, x -> x.type(0, 0, Character.MAX_VALUE));
        illegal(k, x -> x.type(0, 0, (char) ('a' + 256)));
    }

    private static boolean isTyped(char sign) {
        CursorKeep x = new CursorKeep();
        try {
            return x.type(0, 0, sign) == 1 && x.letter(0, 0) == sign;
        } catch (IllegalArgumentException e) {
            return false;
        }
    }

    private static void placesToMoveTo() {
        sentence("how many letters that are there are ahead of it then");
        for (String word : new String[] {"", "a", "abc"}) {
            Keep k = Keep.written(word);
            range("moveTo in " + word, k, 0, word.length(), place -> x -> x.moveTo(1, 0, place), word.length());
        }
        Keep gone = Keep.written("abc");
        gone.erase(0, 0);
        range("moveTo with a letter gone", gone, 0, 2, place -> x -> x.moveTo(1, 0, place), 2);
        gone.erase(0, 0);
        gone.erase(0, 0);
        range("moveTo with all gone", gone, 0, 0, place -> x -> x.moveTo(1, 0, place), 0);
        Keep full = Keep.written("ab".repeat(75));
        range("moveTo in a full text", full, 0, 150, place -> x -> x.moveTo(1, 0, place), 150);
    }

    private static void placesOfLetters() {
        sentence("Throws `IndexOutOfBoundsException` if there is no such text or place");
        Keep k = Keep.written("aaa");
        range("letter", k, 0, 2, place -> x -> x.letter(0, place), 'a');
        range("letterAnew", k, 0, 2, place -> x -> x.letterAnew(0, place), 'a');
        k.erase(0, 0);
        range("letter with one gone", k, 0, 1, place -> x -> x.letter(0, place), 'a');
        range("letterAnew with one gone", k, 0, 1, place -> x -> x.letterAnew(0, place), 'a');
        for (int place : new int[] {0, -1, 1, LOW, FAR}) {
            outside(k, x -> x.letter(1, place));
            outside(k, x -> x.letterAnew(1, place));
        }
        Keep full = Keep.written("a".repeat(150));
        range("letter of a full text", full, 0, 149, place -> x -> x.letter(0, place), 'a');
        range("letterAnew of a full text", full, 0, 149, place -> x -> x.letterAnew(0, place), 'a');
    }

    private static void placesOfSavedLetters() {
        sentence("Throws `IndexOutOfBoundsException` if there is no such text or place");
        Keep k = Keep.written("aaa");
        for (int place : new int[] {0, -1, 1, LOW, FAR}) {
            outside(k, x -> x.savedLetter(0, place));
        }
        k.save(0, 0, NONE);
        outside(k, x -> x.savedLetter(0, 0));
        k.write();
        range("savedLetter", k, 0, 2, place -> x -> x.savedLetter(0, place), 'a');
        k.type(0, 0, 'a');
        range("savedLetter of a text that is longer since", k, 0, 2, place -> x -> x.savedLetter(0, place), 'a');
        k.undo(0);
        k.undo(0);
        range("savedLetter of a text that is shorter since", k, 0, 2, place -> x -> x.savedLetter(0, place), 'a');
        k.save(0, 0, NONE);
        k.write();
        range("savedLetter of a shorter save", k, 0, 1, place -> x -> x.savedLetter(0, place), 'a');
        Keep full = Keep.written("a".repeat(150));
        full.save(0, 0, NONE);
        full.write();
        range("savedLetter of a full text", full, 0, 149, place -> x -> x.savedLetter(0, place), 'a');
    }

    private static void kinds() {
        sentence("Throws `IllegalArgumentException` if kind is none of these, or number is out of its range");
        Keep k = Keep.written("a  b");
        for (int kind = 0; kind <= 2; kind++) {
            int allowed = kind;
            answers("kind " + kind, k, x -> x.ask(0, allowed, 0), 0);
        }
        answers("kind 3", k, x -> x.ask(0, 3, 5), 0);
        for (int kind : new int[] {-1, 4, LOW, FAR}) {
            illegal(k, x -> x.ask(0, kind, 0));
            illegal(k, x -> x.ask(0, kind, 5));
        }
    }

    private static void numbers() {
        sentence("5 to 40 for WRAP, 0 for others");
        Keep k = Keep.written("a  b");
        for (int number = 5; number <= 40; number++) {
            int allowed = number;
            answers("WRAP with " + number, k, x -> x.ask(0, CursorKeep.WRAP, allowed), 0);
        }
        for (int number : new int[] {4, 41, 0, -5, LOW, FAR}) {
            illegal(k, x -> x.ask(0, CursorKeep.WRAP, number));
        }
        for (int kind : new int[] {CursorKeep.SPACES, CursorKeep.ENDS, CursorKeep.CAPITALS}) {
            answers("kind " + kind + " with 0", k, x -> x.ask(0, kind, 0), 0);
            for (int number : new int[] {-1, 1, 5, 40, LOW, FAR}) {
                illegal(k, x -> x.ask(0, kind, number));
            }
        }
    }

    private static Keep asked(int formats) {
        Keep k = Keep.written("a");
        for (int i = 0; i < formats; i++) {
            k.ask(0, CursorKeep.SPACES, 0);
        }
        return k;
    }

    private static void formatsOfCalls() {
        sentence("Throws `IndexOutOfBoundsException` if there is no such format");
        for (int format : new int[] {-1, 0, 1, LOW, FAR}) {
            Keep none = Keep.written("a");
            outside(none, x -> x.come(format));
            outside(none, x -> x.drop(format));
            outside(none, x -> x.state(format));
            outside(none, x -> x.spared(format));
        }
        for (int formats : new int[] {1, 2, 60}) {
            Keep k = asked(formats);
            range("come", k, 0, formats - 1, format -> x -> x.come(format), 0);
            range("drop", k, 0, formats - 1, format -> x -> x.drop(format), 0);
            range("state", k, 0, formats - 1, format -> x -> x.state(format), CursorKeep.WAITING);
            range("spared", k, 0, formats - 1, format -> x -> x.spared(format), 0);
        }
    }

    private static void formatsToWaitFor() {
        sentence("Throws `IndexOutOfBoundsException` if there is no such hand, text or format, that not being NONE");
        for (int formats : new int[] {0, 1, 60}) {
            range("save", asked(formats), NONE, formats - 1, format -> x -> x.save(0, 0, format), 0);
        }
    }

    // ---- the first exception of those that apply

    private static final String FIRST = "Where two exceptions apply, the one that is listed first is thrown";
    private static final int[] NO_HANDS = {-1, HANDS, LOW, FAR};
    private static final int[] NO_TEXTS = {-1, TEXTS, LOW, FAR};

    private static void firstExceptionOfType() {
        sentence(FIRST);
        Keep k = Keep.written("ab".repeat(75));
        stateless(k, x -> x.type(0, 0, 'a'));
        illegal(k, x -> x.type(0, 0, '!'));
        illegal(k, x -> x.type(0, 1, '!'));
        for (int hand : NO_HANDS) {
            outside(k, x -> x.type(hand, 0, 'a'));
            outside(k, x -> x.type(hand, 0, '!'));
            outside(k, x -> x.type(hand, 1, '!'));
        }
        for (int text : NO_TEXTS) {
            outside(k, x -> x.type(0, text, '!'));
            outside(k, x -> x.type(-1, text, '!'));
        }
    }

    private static void firstExceptionOfEraseAndLock() {
        sentence(FIRST);
        Keep k = new Keep();
        k.lock(1, 0);
        stateless(k, x -> x.erase(0, 0));
        stateless(k, x -> x.lock(0, 0));
        for (int hand : NO_HANDS) {
            outside(k, x -> x.erase(hand, 0));
            outside(k, x -> x.lock(hand, 0));
        }
    }

    private static void firstExceptionOfAsk() {
        sentence(FIRST);
        for (Keep k : new Keep[] {asked(0), asked(60)}) {
            illegal(k, x -> x.ask(0, 4, 0));
            illegal(k, x -> x.ask(0, CursorKeep.WRAP, 41));
            illegal(k, x -> x.ask(0, CursorKeep.ENDS, 1));
            for (int text : NO_TEXTS) {
                outside(k, x -> x.ask(text, CursorKeep.ENDS, 0));
                outside(k, x -> x.ask(text, 4, 0));
                outside(k, x -> x.ask(text, CursorKeep.WRAP, 4));
            }
        }
        stateless(asked(60), x -> x.ask(0, CursorKeep.ENDS, 0));
    }

    private static void firstExceptionOfSave() {
        sentence(FIRST);
        Keep some = asked(1);
        Keep full = asked(1);
        for (int i = 0; i < 60; i++) {
            full.save(0, 0, NONE);
        }
        for (Keep k : new Keep[] {some, full}) {
            illegal(k, x -> x.save(0, 1, 0));
            outside(k, x -> x.save(0, 0, 1));
            outside(k, x -> x.save(0, 1, -2));
            for (int hand : NO_HANDS) {
                outside(k, x -> x.save(hand, 0, 0));
                outside(k, x -> x.save(hand, 1, 0));
            }
            for (int text : NO_TEXTS) {
                outside(k, x -> x.save(0, text, NONE));
                outside(k, x -> x.save(0, text, 0));
            }
        }
        stateless(full, x -> x.save(0, 0, 0));
        stateless(full, x -> x.save(0, 0, NONE));
    }
}
