import java.util.ArrayList;
import java.util.List;

/** Texts with cursors of many hands, formats that come late, a queue of saves, and undoing. */
public final class CursorKeep {
    public static final int NONE = -1;
    public static final int SPACES = 0, ENDS = 1, CAPITALS = 2, WRAP = 3;
    public static final int WAITING = 0, DONE = 1, DROPPED = 2;

    private static final int TEXTS = 3;
    private static final int HANDS = 5;
    private static final int MOST_LETTERS = 150;
    private static final int MOST_FORMATS = 60;
    private static final int MOST_SAVES = 60;
    private static final int LEAST_WIDTH = 5;
    private static final int MOST_WIDTH = 40;

    // An object answers for this many calls, and a call remembers one act at most.
    private static final int MOST_ACTS = 512;
    // A call lets one letter come or go; formats let no letter go more often than it came,
    // and no letter has another character more than once.
    private static final int MOST_DEEDS = 2 * MOST_ACTS + MOST_LETTERS;

    private static final char SPACE = ' ';
    private static final char LINE_END = '/';

    // No letter has these characters, so they can stand for a missing one, and for what
    // a format wants of a letter that is to have no other.
    private static final char NO_SIGN = (char) 0;
    private static final char KEEPS = (char) 0;
    private static final char GOES = (char) 1;

    private final Text[] texts = new Text[TEXTS];
    private final Hand[] hands = new Hand[HANDS];
    private final List<Format> formats = new ArrayList<>();
    private final List<Save> queue = new ArrayList<>();
    private final Plan plan = new Plan();
    private final Neighbours neighbours = new Neighbours();
    private int saves;

    public CursorKeep() {
        for (int i = 0; i < TEXTS; i++) {
            texts[i] = new Text(i);
        }
        for (int i = 0; i < HANDS; i++) {
            hands[i] = new Hand();
        }
    }

    // ---- acts

    public int type(int hand, int text, char letter)
            throws IndexOutOfBoundsException, IllegalArgumentException, IllegalStateException {
        Hand typist = handAt(hand);
        Text typed = textAt(text);
        if (!canBeTyped(letter)) {
            throw new IllegalArgumentException("no such letter");
        }
        if (typed.row.isFull()) {
            throw new IllegalStateException("the text has had all its letters");
        }
        typist.remember(new Act(typed, typed.putAheadOfCursor(hand, letter), true));
        return typed.cursorPlace(hand);
    }

    public int erase(int hand, int text) throws IndexOutOfBoundsException, IllegalStateException {
        Hand eraser = handAt(hand);
        Text erased = textAt(text);
        int letter = erased.letterAheadOfCursor(hand);
        if (letter == NONE) {
            throw new IllegalStateException("no letter ahead of the cursor");
        }
        erased.turn(letter, false);
        eraser.remember(new Act(erased, letter, false));
        return erased.cursorPlace(hand);
    }

    public int moveTo(int hand, int text, int place) throws IndexOutOfBoundsException {
        handAt(hand);
        Text moved = textAt(text);
        if (place < 0 || place > moved.row.shownCount()) {
            throw new IndexOutOfBoundsException("no such place");
        }
        int before = moved.cursorPlace(hand);
        moved.setCursor(hand, moved.row.shownLetter(place));
        return before;
    }

    public int undo(int hand) throws IndexOutOfBoundsException, IllegalStateException {
        Act act = handAt(hand).stepBack();
        if (act == null) {
            throw new IllegalStateException("nothing to undo");
        }
        act.text.turn(act.letter, !act.typed);
        return act.text.number;
    }

    public int redo(int hand) throws IndexOutOfBoundsException, IllegalStateException {
        Act act = handAt(hand).stepForth();
        if (act == null) {
            throw new IllegalStateException("nothing to redo");
        }
        act.text.turn(act.letter, act.typed);
        return act.text.number;
    }

    // ---- texts

    public int place(int hand, int text) throws IndexOutOfBoundsException {
        handAt(hand);
        return textAt(text).cursorPlace(hand);
    }

    public int length(int text) throws IndexOutOfBoundsException {
        return textAt(text).row.shownCount();
    }

    public char letter(int text, int place) throws IndexOutOfBoundsException {
        return shownSign(textAt(text).row, place);
    }

    public char letterAnew(int text, int place) throws IndexOutOfBoundsException {
        return shownSign(textAt(text).rowAnew(), place);
    }

    public int version(int text) throws IndexOutOfBoundsException {
        return textAt(text).version;
    }

    // ---- formats

    public int ask(int text, int kind, int number)
            throws IndexOutOfBoundsException, IllegalArgumentException, IllegalStateException {
        Text asked = textAt(text);
        if (!canBeAsked(kind, number)) {
            throw new IllegalArgumentException("no such kind, or its number is out of range");
        }
        if (formats.size() >= MOST_FORMATS) {
            throw new IllegalStateException("no more formats");
        }
        plan.draw(asked.row, kind, number);
        formats.add(new Format(asked, plan.changes(asked.row, neighbours)));
        return formats.size() - 1;
    }

    public int come(int format) throws IndexOutOfBoundsException, IllegalStateException {
        Format coming = waitingFormatAt(format);
        int spared = coming.judge(neighbours);
        coming.doChanges();
        coming.end(DONE, spared);
        return coming.changes.size() - spared;
    }

    public int drop(int format) throws IndexOutOfBoundsException, IllegalStateException {
        Format dropped = waitingFormatAt(format);
        dropped.end(DROPPED, dropped.changes.size());
        return dropped.changes.size();
    }

    public int state(int format) throws IndexOutOfBoundsException {
        return formatAt(format).state;
    }

    public int spared(int format) throws IndexOutOfBoundsException {
        Format asked = formatAt(format);
        return asked.state == WAITING ? asked.judge(neighbours) : asked.sparedAtEnd;
    }

    // ---- saves

    public boolean lock(int hand, int text) throws IndexOutOfBoundsException, IllegalStateException {
        handAt(hand);
        Text locked = textAt(text);
        if (!locked.isFreeFor(hand)) {
            throw new IllegalStateException("another hand has locked the text");
        }
        locked.lockedBy = locked.lockedBy == hand ? NONE : hand;
        return locked.lockedBy == hand;
    }

    public int save(int hand, int text, int format)
            throws IndexOutOfBoundsException, IllegalArgumentException, IllegalStateException {
        handAt(hand);
        Text saved = textAt(text);
        Format awaited = format == NONE ? null : formatAt(format);
        if (awaited != null && awaited.text != saved) {
            throw new IllegalArgumentException("the format is for another text");
        }
        if (saves >= MOST_SAVES) {
            throw new IllegalStateException("no more saves");
        }
        queue.add(new Save(saves, hand, saved, awaited));
        saves++;
        return saves - 1;
    }

    public int write() {
        for (int i = 0; i < queue.size(); i++) {
            Save save = queue.get(i);
            if (save.isReady() && isFirstForItsText(save)) {
                queue.remove(i);
                save.text.keepAsSaved();
                return save.number;
            }
        }
        return NONE;
    }

    public int queued() {
        return queue.size();
    }

    public int savedVersion(int text) throws IndexOutOfBoundsException {
        return textAt(text).savedVersion;
    }

    public int savedLength(int text) throws IndexOutOfBoundsException {
        return textAt(text).savedCount;
    }

    public char savedLetter(int text, int place) throws IndexOutOfBoundsException {
        Text asked = textAt(text);
        if (place < 0 || place >= asked.savedCount) {
            throw new IndexOutOfBoundsException("no such place");
        }
        return asked.savedSigns[place];
    }

    // ---- what the calls share

    private Hand handAt(int hand) {
        Hand found = hand >= 0 && hand < HANDS ? hands[hand] : null;
        if (found == null) {
            throw new IndexOutOfBoundsException("no such hand");
        }
        return found;
    }

    private Text textAt(int text) {
        Text found = text >= 0 && text < TEXTS ? texts[text] : null;
        if (found == null) {
            throw new IndexOutOfBoundsException("no such text");
        }
        return found;
    }

    private Format formatAt(int format) {
        if (format < 0 || format >= formats.size()) {
            throw new IndexOutOfBoundsException("no such format");
        }
        return formats.get(format);
    }

    private Format waitingFormatAt(int format) {
        Format found = formatAt(format);
        if (found.state != WAITING) {
            throw new IllegalStateException("the format is not waiting");
        }
        return found;
    }

    private boolean isFirstForItsText(Save save) {
        for (int i = 0; i < queue.size(); i++) {
            if (queue.get(i).text == save.text) {
                return queue.get(i) == save;
            }
        }
        return false;
    }

    private static char shownSign(Row row, int place) {
        int letter = row.shownLetter(place);
        if (letter == NONE) {
            throw new IndexOutOfBoundsException("no such place");
        }
        return row.signOf(letter);
    }

    private static boolean canBeTyped(char sign) {
        return sign >= 'a' && sign <= 'z' || sign >= 'A' && sign <= 'Z' || sign >= '0' && sign <= '9'
                || sign == SPACE || sign == LINE_END;
    }

    private static boolean canBeAsked(int kind, int number) {
        if (kind == WRAP) {
            return number >= LEAST_WIDTH && number <= MOST_WIDTH;
        }
        return (kind == SPACES || kind == ENDS || kind == CAPITALS) && number == 0;
    }

    /**
     * The letters of a text, gone ones too. A letter is known by its number, which counts the
     * letters typed earlier; a spot counts the letters ahead of it in the row.
     */
    static final class Row {
        private final int[] order = new int[MOST_LETTERS];
        private final char[] signs = new char[MOST_LETTERS];
        private final boolean[] there = new boolean[MOST_LETTERS];
        private int count;

        void empty() {
            count = 0;
        }

        int count() {
            return count;
        }

        boolean isFull() {
            return count >= MOST_LETTERS;
        }

        boolean has(int letter) {
            return letter >= 0 && letter < count;
        }

        boolean shows(int letter) {
            return has(letter) && there[letter];
        }

        char signOf(int letter) {
            return has(letter) ? signs[letter] : NO_SIGN;
        }

        int letterAt(int spot) {
            return spot >= 0 && spot < count ? order[spot] : NONE;
        }

        /** The spot behind all letters stands for none, as a cursor at the end does. */
        int spotOf(int letter) {
            for (int spot = 0; spot < count; spot++) {
                if (order[spot] == letter) {
                    return spot;
                }
            }
            return count;
        }

        int nearestShownAhead(int spot) {
            for (int i = spot - 1; i >= 0; i--) {
                if (shows(letterAt(i))) {
                    return letterAt(i);
                }
            }
            return NONE;
        }

        int nearestShownFrom(int spot) {
            for (int i = spot; i < count; i++) {
                if (shows(letterAt(i))) {
                    return letterAt(i);
                }
            }
            return NONE;
        }

        int shownCount() {
            return shownCountAhead(count);
        }

        int shownCountAhead(int spot) {
            int shown = 0;
            for (int i = 0; i < spot; i++) {
                if (shows(letterAt(i))) {
                    shown++;
                }
            }
            return shown;
        }

        int shownLetter(int place) {
            int ahead = 0;
            for (int i = 0; i < count; i++) {
                if (shows(order[i])) {
                    if (ahead == place) {
                        return order[i];
                    }
                    ahead++;
                }
            }
            return NONE;
        }

        void put(int spot, char sign) {
            if (isFull() || spot < 0 || spot > count) {
                return;
            }
            System.arraycopy(order, spot, order, spot + 1, count - spot);
            order[spot] = count;
            signs[count] = sign;
            there[count] = true;
            count++;
        }

        void setThere(int letter, boolean now) {
            if (has(letter)) {
                there[letter] = now;
            }
        }

        void setSign(int letter, char sign) {
            if (has(letter)) {
                signs[letter] = sign;
            }
        }
    }

    /** What was once done to a row, and can be done once more to another. */
    static final class Deed {
        static final int PUT = 0, GO = 1, COME_BACK = 2, BECOME = 3;

        private final int kind;
        private final int where;
        private final char sign;

        /** Where is the spot for PUT, and the letter for the others. */
        Deed(int kind, int where, char sign) {
            this.kind = kind;
            this.where = where;
            this.sign = sign;
        }

        void doTo(Row row) {
            switch (kind) {
                case PUT:
                    row.put(where, sign);
                    break;
                case GO:
                    row.setThere(where, false);
                    break;
                case COME_BACK:
                    row.setThere(where, true);
                    break;
                default:
                    row.setSign(where, sign);
                    break;
            }
        }
    }

    /** A text, its cursors, its lock, and what was saved of it. */
    static final class Text {
        final int number;
        final Row row = new Row();
        final char[] savedSigns = new char[MOST_LETTERS];
        int version;
        int lockedBy = NONE;
        int savedVersion = NONE;
        int savedCount;
        private final Row anew = new Row();
        private final List<Deed> deeds = new ArrayList<>();
        // By hands, the letter at which it stands, or NONE at the end.
        private final int[] cursors = new int[HANDS];

        Text(int number) {
            this.number = number;
            for (int i = 0; i < HANDS; i++) {
                cursors[i] = NONE;
            }
        }

        boolean isFreeFor(int hand) {
            return lockedBy == NONE || lockedBy == hand;
        }

        int cursorPlace(int hand) {
            return row.shownCountAhead(cursorSpot(hand));
        }

        int letterAheadOfCursor(int hand) {
            return row.nearestShownAhead(cursorSpot(hand));
        }

        void setCursor(int hand, int letter) {
            if (hand >= 0 && hand < HANDS) {
                cursors[hand] = letter;
            }
        }

        boolean hasCursorAt(int letter) {
            for (int i = 0; i < HANDS; i++) {
                if (cursors[i] == letter) {
                    return true;
                }
            }
            return false;
        }

        int putAheadOfCursor(int hand, char sign) {
            int letter = row.count();
            perform(new Deed(Deed.PUT, cursorSpot(hand), sign));
            version++;
            return letter;
        }

        /** Lets a letter be there or gone; one that is so already makes no new version. */
        void turn(int letter, boolean there) {
            if (row.shows(letter) == there) {
                return;
            }
            if (there) {
                perform(new Deed(Deed.COME_BACK, letter, NO_SIGN));
            } else {
                letGo(letter);
            }
            version++;
        }

        void letGo(int letter) {
            perform(new Deed(Deed.GO, letter, NO_SIGN));
            int next = row.nearestShownFrom(row.spotOf(letter));
            for (int i = 0; i < HANDS; i++) {
                if (cursors[i] == letter) {
                    cursors[i] = next;
                }
            }
        }

        void become(int letter, char sign) {
            perform(new Deed(Deed.BECOME, letter, sign));
        }

        Row rowAnew() {
            anew.empty();
            for (int i = 0; i < deeds.size(); i++) {
                deeds.get(i).doTo(anew);
            }
            return anew;
        }

        void keepAsSaved() {
            savedCount = 0;
            for (int spot = 0; spot < row.count(); spot++) {
                int letter = row.letterAt(spot);
                if (row.shows(letter) && savedCount < MOST_LETTERS) {
                    savedSigns[savedCount] = row.signOf(letter);
                    savedCount++;
                }
            }
            savedVersion = version;
        }

        private int cursorSpot(int hand) {
            return row.spotOf(hand >= 0 && hand < HANDS ? cursors[hand] : NONE);
        }

        private void perform(Deed deed) {
            deed.doTo(row);
            if (deeds.size() < MOST_DEEDS) {
                deeds.add(deed);
            }
        }
    }

    /** A letter that a hand has typed, or else erased. */
    static final class Act {
        final Text text;
        final int letter;
        final boolean typed;

        Act(Text text, int letter, boolean typed) {
            this.text = text;
            this.letter = letter;
            this.typed = typed;
        }
    }

    /** What a hand has done: first the acts that stand, then those that are undone. */
    static final class Hand {
        private final List<Act> acts = new ArrayList<>();
        private int standing;

        void remember(Act act) {
            for (int last = acts.size() - 1; last >= standing; last--) {
                acts.remove(last);
            }
            if (acts.size() < MOST_ACTS) {
                acts.add(act);
            }
            standing = acts.size();
        }

        Act stepBack() {
            if (standing <= 0 || standing > acts.size()) {
                return null;
            }
            standing--;
            return acts.get(standing);
        }

        Act stepForth() {
            if (standing < 0 || standing >= acts.size()) {
                return null;
            }
            standing++;
            return acts.get(standing - 1);
        }
    }

    /** By letters, their nearest neighbours of those that are there and not to go by a format. */
    static final class Neighbours {
        private final boolean[] going = new boolean[MOST_LETTERS];
        private final int[] ahead = new int[MOST_LETTERS];
        private final int[] behind = new int[MOST_LETTERS];

        void forgetGoing() {
            for (int i = 0; i < MOST_LETTERS; i++) {
                going[i] = false;
            }
        }

        void markGoing(int letter) {
            if (isLetter(letter)) {
                going[letter] = true;
            }
        }

        void find(Row row) {
            int nearest = NONE;
            for (int spot = 0; spot < row.count(); spot++) {
                nearest = pass(row, row.letterAt(spot), nearest, ahead);
            }
            nearest = NONE;
            for (int spot = row.count() - 1; spot >= 0; spot--) {
                nearest = pass(row, row.letterAt(spot), nearest, behind);
            }
        }

        int aheadOf(int letter) {
            return isLetter(letter) ? ahead[letter] : NONE;
        }

        int behindOf(int letter) {
            return isLetter(letter) ? behind[letter] : NONE;
        }

        /** Answers which letter is the nearest for the next one on the way. */
        private int pass(Row row, int letter, int nearest, int[] side) {
            if (!isLetter(letter) || letter >= side.length) {
                return nearest;
            }
            side[letter] = nearest;
            return row.shows(letter) && !going[letter] ? letter : nearest;
        }

        private static boolean isLetter(int letter) {
            return letter >= 0 && letter < MOST_LETTERS;
        }
    }

    /** What a kind of format wants of the letters that a text shows, by their places. */
    static final class Plan {
        private final int[] letters = new int[MOST_LETTERS];
        private final char[] signs = new char[MOST_LETTERS];
        private final char[] wanted = new char[MOST_LETTERS];
        private int count;

        void draw(Row row, int kind, int number) {
            look(row);
            switch (kind) {
                case SPACES:
                    wantSingleSpaces();
                    break;
                case ENDS:
                    wantBareEnds();
                    break;
                case CAPITALS:
                    wantCapitals();
                    break;
                default:
                    wantWrapped(number);
                    break;
            }
        }

        List<Change> changes(Row row, Neighbours near) {
            near.forgetGoing();
            for (int i = 0; i < count; i++) {
                if (wanted[i] == GOES) {
                    near.markGoing(letters[i]);
                }
            }
            near.find(row);
            List<Change> changes = new ArrayList<>();
            for (int i = 0; i < count; i++) {
                if (wanted[i] != KEEPS) {
                    int letter = letters[i];
                    changes.add(new Change(letter, signs[i], wanted[i], near.aheadOf(letter), near.behindOf(letter)));
                }
            }
            return changes;
        }

        private void look(Row row) {
            count = 0;
            for (int spot = 0; spot < row.count(); spot++) {
                int letter = row.letterAt(spot);
                if (row.shows(letter) && count < MOST_LETTERS) {
                    letters[count] = letter;
                    signs[count] = row.signOf(letter);
                    wanted[count] = KEEPS;
                    count++;
                }
            }
        }

        private void wantSingleSpaces() {
            for (int i = 1; i < count; i++) {
                if (signs[i] == SPACE && signs[i - 1] == SPACE) {
                    wanted[i] = GOES;
                }
            }
        }

        private void wantBareEnds() {
            boolean onlySpaces = true;
            for (int i = count - 1; i >= 0; i--) {
                if (signs[i] != SPACE) {
                    onlySpaces = signs[i] == LINE_END;
                } else if (onlySpaces) {
                    wanted[i] = GOES;
                }
            }
        }

        private void wantCapitals() {
            boolean begins = true;
            for (int i = 0; i < count; i++) {
                if (begins && signs[i] >= 'a' && signs[i] <= 'z') {
                    wanted[i] = (char) (signs[i] - 'a' + 'A');
                }
                begins = signs[i] == LINE_END;
            }
        }

        /**
         * A line is looked at once, at its letter behind the first width ones: if no space has
         * come by then, it stays as it is up to its end.
         */
        private void wantWrapped(int width) {
            int start = 0;
            int space = NONE;
            for (int i = 0; i < count; i++) {
                if (signs[i] == LINE_END) {
                    start = i + 1;
                    space = NONE;
                    continue;
                }
                if (signs[i] == SPACE) {
                    space = i;
                }
                if (i - start == width && space >= 0) {
                    wanted[space] = LINE_END;
                    start = space + 1;
                    space = NONE;
                }
            }
        }
    }

    /** What a format is to do to a letter, and how the letter was when the format was asked for. */
    static final class Change {
        final int letter;
        final char had;
        final char wanted;
        final int ahead;
        final int behind;
        boolean isSpared;

        Change(int letter, char had, char wanted, int ahead, int behind) {
            this.letter = letter;
            this.had = had;
            this.wanted = wanted;
            this.ahead = ahead;
            this.behind = behind;
        }

        boolean goes() {
            return wanted == GOES;
        }
    }

    /** A format that was asked for, and what became of it. */
    static final class Format {
        final Text text;
        final List<Change> changes;
        int state = WAITING;
        int sparedAtEnd;

        Format(Text text, List<Change> changes) {
            this.text = text;
            this.changes = changes;
        }

        void end(int endState, int spared) {
            state = endState;
            sparedAtEnd = spared;
        }

        /** Settles every change ahead of any being done, for they are done all at once. */
        int judge(Neighbours near) {
            near.forgetGoing();
            for (int i = 0; i < changes.size(); i++) {
                if (changes.get(i).goes()) {
                    near.markGoing(changes.get(i).letter);
                }
            }
            near.find(text.row);
            int spared = 0;
            for (int i = 0; i < changes.size(); i++) {
                Change change = changes.get(i);
                change.isSpared = spares(change, near);
                if (change.isSpared) {
                    spared++;
                }
            }
            return spared;
        }

        void doChanges() {
            boolean changed = false;
            for (int i = 0; i < changes.size(); i++) {
                Change change = changes.get(i);
                if (change.isSpared) {
                    continue;
                }
                changed = true;
                if (change.goes()) {
                    text.letGo(change.letter);
                } else {
                    text.become(change.letter, change.wanted);
                }
            }
            if (changed) {
                text.version++;
            }
        }

        private boolean spares(Change change, Neighbours near) {
            int letter = change.letter;
            return !text.row.shows(letter)
                    || text.row.signOf(letter) != change.had
                    || change.goes() && text.hasCursorAt(letter)
                    || near.aheadOf(letter) != change.ahead
                    || near.behindOf(letter) != change.behind;
        }
    }

    /** A save in the queue; its format is null if it waits for none. */
    static final class Save {
        final int number;
        final Text text;
        private final int hand;
        private final Format awaited;

        Save(int number, int hand, Text text, Format awaited) {
            this.number = number;
            this.hand = hand;
            this.text = text;
            this.awaited = awaited;
        }

        boolean isReady() {
            return (awaited == null || awaited.state != WAITING) && text.isFreeFor(hand);
        }
    }
}
