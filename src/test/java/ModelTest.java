import java.util.ArrayList;
import java.util.Arrays;
import java.util.Collections;
import java.util.IdentityHashMap;
import java.util.List;
import java.util.Random;
import java.util.Set;

/**
 * Runs of 512 calls, the same ones every time, against a second writing of the document that
 * shares nothing with the class and does each sentence in the slowest way.
 */
public final class ModelTest {
    private static final int RUNS = 4000;
    private static final int CALLS = 512;
    private static final int LAST_LOOKS = 60;
    private static final String SIGNS = "abcxyzAZ09 /";

    /** An exception that is due, by a number. */
    private static final long OUTSIDE = -1001, ILLEGAL = -1002, STATELESS = -1003;

    public static void main(String[] args) {
        long[] answered = new long[4];
        for (int run = 0; run < RUNS; run++) {
            String fault = new Run(run).go(answered);
            if (fault != null) {
                System.out.println("ModelTest: run " + run + ": " + fault);
                System.exit(1);
            }
        }
        System.out.println("ModelTest: " + RUNS + " runs; answers, outside, illegal, stateless: "
                + Arrays.toString(answered));
        for (long count : answered) {
            if (count < RUNS / 4) {
                System.out.println("ModelTest: the runs no longer reach every kind of answer");
                System.exit(1);
            }
        }
    }

    /** One run: chooses calls, and asks both sides. */
    private static final class Run {
        final Random dice;
        final CursorKeep k = new CursorKeep();
        final Model m = new Model();
        final StringBuilder told = new StringBuilder();
        final int wrongShare;
        final int looking;
        final int typing;
        final int formatting;
        final int saving;
        final int texts;
        final String signs;

        Run(int seed) {
            dice = new Random(seed);
            wrongShare = dice.nextInt(3) == 0 ? 12 : 60;
            looking = dice.nextInt(40);
            typing = 10 + dice.nextInt(40);
            formatting = 2 + dice.nextInt(dice.nextInt(4) == 0 ? 90 : 20);
            saving = dice.nextInt(4) == 0 ? 30 : 0;
            texts = 1 + dice.nextInt(3);
            signs = dice.nextBoolean() ? SIGNS : "aab    /";
        }

        String go(long[] answered) {
            for (int i = 0; i < CALLS; i++) {
                int[] call = i >= CALLS - LAST_LOOKS || any(100) < looking ? look() : choose();
                long want = m.answer(call);
                long got = answer(call);
                told.append(Arrays.toString(call)).append(" = ").append(got).append('\n');
                if (got != want) {
                    return told + "due is " + want;
                }
                answered[got == OUTSIDE ? 1 : got == ILLEGAL ? 2 : got == STATELESS ? 3 : 0]++;
            }
            return null;
        }

        int any(int bound) {
            return dice.nextInt(bound);
        }

        boolean wrongly() {
            return any(wrongShare) == 0;
        }

        int hand() {
            return wrongly() ? new int[] {-1, 5, Integer.MAX_VALUE, Integer.MIN_VALUE}[any(4)] : any(5);
        }

        int text() {
            return wrongly() ? new int[] {-1, 3, Integer.MAX_VALUE, Integer.MIN_VALUE}[any(4)] : any(texts);
        }

        int spot(int text) {
            int most = text >= 0 && text < 3 ? m.texts[text].shown().size() : 1;
            return wrongly() ? new int[] {-1, most + 1, Integer.MAX_VALUE, Integer.MIN_VALUE}[any(4)] : any(most + 1);
        }

        int format() {
            int most = m.formats.size();
            return wrongly() || most == 0 ? new int[] {-2, most, Integer.MAX_VALUE, Integer.MIN_VALUE}[any(4)]
                    : any(4) == 0 ? any(most) : most - 1 - any(Math.min(most, 4));
        }

        int[] choose() {
            int text = text();
            int at = any(typing + formatting + saving + 50);
            if (at < typing) {
                return new int[] {0, hand(), text, wrongly() ? any(65536) : signs.charAt(any(signs.length()))};
            }
            at -= typing;
            if (at < formatting) {
                return chooseFormat(text);
            }
            at -= formatting;
            if (at < saving) {
                return new int[] {16, hand(), text, -1};
            }
            switch (any(10)) {
                case 0: case 1: return new int[] {1, hand(), text};
                case 2: case 3: return new int[] {2, hand(), text, spot(text)};
                case 4: case 5: return new int[] {3, hand()};
                case 6: return new int[] {4, hand()};
                case 7: return new int[] {15, hand(), text};
                case 8: return new int[] {16, hand(), text, any(2) == 0 ? -1 : format()};
                default: return new int[] {17};
            }
        }

        int[] look() {
            int text = text();
            switch (any(12)) {
                case 0: return new int[] {5, hand(), text};
                case 1: return new int[] {6, text};
                case 2: case 3: return new int[] {7, text, spot(text)};
                case 4: case 5: return new int[] {8, text, spot(text)};
                case 6: return new int[] {9, text};
                case 7: return any(2) == 0 ? new int[] {13, format()} : new int[] {18};
                case 8: case 9: return new int[] {14, format()};
                case 10: return new int[] {19 + any(2), text};
                default: return new int[] {21, text, wrongly() ? -1 : savedSpot(text)};
            }
        }

        int savedSpot(int text) {
            return any(text >= 0 && text < 3 ? m.texts[text].saved.length() + 1 : 1);
        }

        int[] chooseFormat(int text) {
            switch (any(8)) {
                case 0: case 1: case 2:
                    int kind = wrongly() ? new int[] {-1, 4}[any(2)] : any(4);
                    int number = kind == 3 ? 5 + any(any(3) == 0 ? 36 : 6) : 0;
                    return new int[] {10, text, kind, wrongly() ? any(50) - 4 : number};
                case 3: case 4: return new int[] {11, format()};
                case 5: return any(4) == 0 ? new int[] {12, format()} : new int[] {14, format()};
                case 6: return new int[] {13, format()};
                default: return new int[] {14, format()};
            }
        }

        long answer(int[] c) {
            try {
                switch (c[0]) {
                    case 0: return k.type(c[1], c[2], (char) c[3]);
                    case 1: return k.erase(c[1], c[2]);
                    case 2: return k.moveTo(c[1], c[2], c[3]);
                    case 3: return k.undo(c[1]);
                    case 4: return k.redo(c[1]);
                    case 5: return k.place(c[1], c[2]);
                    case 6: return k.length(c[1]);
                    case 7: return k.letter(c[1], c[2]);
                    case 8: return k.letterAnew(c[1], c[2]);
                    case 9: return k.version(c[1]);
                    case 10: return k.ask(c[1], c[2], c[3]);
                    case 11: return k.come(c[1]);
                    case 12: return k.drop(c[1]);
                    case 13: return k.state(c[1]);
                    case 14: return k.spared(c[1]);
                    case 15: return k.lock(c[1], c[2]) ? 1 : 0;
                    case 16: return k.save(c[1], c[2], c[3]);
                    case 17: return k.write();
                    case 18: return k.queued();
                    case 19: return k.savedVersion(c[1]);
                    case 20: return k.savedLength(c[1]);
                    default: return k.savedLetter(c[1], c[2]);
                }
            } catch (RuntimeException e) {
                // The machine's own exceptions are classes below these, and are never due.
                return e.getClass() == IndexOutOfBoundsException.class ? OUTSIDE
                        : e.getClass() == IllegalArgumentException.class ? ILLEGAL
                        : e.getClass() == IllegalStateException.class ? STATELESS : -9999;
            }
        }
    }

    // ---- the second writing

    private static final class MLetter {
        char sign;
        boolean there = true;
    }

    private static final class MText {
        final List<MLetter> row = new ArrayList<>();
        final MLetter[] cursors = new MLetter[5];
        int version;
        int lockedBy = -1;
        String saved = "";
        int savedVersion = -1;

        List<MLetter> shown() {
            List<MLetter> shown = new ArrayList<>();
            for (MLetter l : row) {
                if (l.there) {
                    shown.add(l);
                }
            }
            return shown;
        }

        int place(int hand) {
            return cursors[hand] == null ? shown().size() : shown().indexOf(cursors[hand]);
        }

        void set(MLetter l, boolean there) {
            if (l.there == there) {
                return;
            }
            List<MLetter> shown = shown();
            int at = shown.indexOf(l);
            l.there = there;
            version++;
            for (int i = 0; i < 5; i++) {
                if (!there && cursors[i] == l) {
                    cursors[i] = at + 1 < shown.size() ? shown.get(at + 1) : null;
                }
            }
        }

        String word() {
            StringBuilder s = new StringBuilder();
            for (MLetter l : shown()) {
                s.append(l.sign);
            }
            return s.toString();
        }
    }

    private static final class MAct {
        int text;
        MLetter letter;
        boolean typed;
        boolean undone;
        int undoneWhen;
        boolean lost;
    }

    private static final class MChange {
        MLetter letter;
        char had;
        char to;
        MLetter ahead;
        MLetter behind;
    }

    private static final class MFormat {
        MText text;
        int number;
        int state;
        int spared;
        final List<MChange> changes = new ArrayList<>();
        final Set<MLetter> going = Collections.newSetFromMap(new IdentityHashMap<>());

        void change(MLetter l, char to) {
            MChange c = new MChange();
            c.letter = l;
            c.had = l.sign;
            c.to = to;
            changes.add(c);
            if (to == '-') {
                going.add(l);
            }
        }

        MLetter neighbour(MLetter l, int step) {
            for (int i = text.row.indexOf(l) + step; i >= 0 && i < text.row.size(); i += step) {
                MLetter other = text.row.get(i);
                if (other.there && !going.contains(other)) {
                    return other;
                }
            }
            return null;
        }

        boolean spares(MChange c) {
            if (!c.letter.there || c.letter.sign != c.had) {
                return true;
            }
            if (c.to == '-') {
                for (MLetter at : text.cursors) {
                    if (at == c.letter) {
                        return true;
                    }
                }
            }
            return neighbour(c.letter, -1) != c.ahead || neighbour(c.letter, 1) != c.behind;
        }

        int sparedNow() {
            if (state == 1) {
                return spared;
            }
            if (state == 2) {
                return changes.size();
            }
            int count = 0;
            for (MChange c : changes) {
                if (spares(c)) {
                    count++;
                }
            }
            return count;
        }

        void find(int kind, int n) {
            List<MLetter> shown = text.shown();
            String s = text.word();
            if (kind == 3) {
                findWrap(shown, s, n);
            }
            for (int i = 0; i < s.length(); i++) {
                boolean space = s.charAt(i) == ' ';
                boolean begins = i == 0 || s.charAt(i - 1) == '/';
                String rest = s.substring(i).split("/", 2)[0];
                if (kind == 0 && space && i > 0 && s.charAt(i - 1) == ' ') {
                    change(shown.get(i), '-');
                } else if (kind == 1 && space && rest.isBlank()) {
                    change(shown.get(i), '-');
                } else if (kind == 2 && begins && Character.isLowerCase(s.charAt(i))) {
                    change(shown.get(i), Character.toUpperCase(s.charAt(i)));
                }
            }
            for (MChange c : changes) {
                c.ahead = neighbour(c.letter, -1);
                c.behind = neighbour(c.letter, 1);
            }
        }

        void findWrap(List<MLetter> shown, String s, int n) {
            int begin = 0;
            while (begin <= s.length()) {
                int end = s.indexOf('/', begin) < 0 ? s.length() : s.indexOf('/', begin);
                int space = end - begin > n ? s.substring(begin, begin + n + 1).lastIndexOf(' ') : -1;
                if (space >= 0) {
                    change(shown.get(begin + space), '/');
                    begin += space + 1;
                } else {
                    begin = end + 1;
                }
            }
        }
    }

    private static final class MSave {
        int number;
        int hand;
        MText text;
        MFormat format;
    }

    private static final class Model {
        final MText[] texts = {new MText(), new MText(), new MText()};
        final List<List<MAct>> acts = new ArrayList<>();
        final List<MFormat> formats = new ArrayList<>();
        final List<MSave> queue = new ArrayList<>();
        int saves;
        int clock;

        Model() {
            for (int i = 0; i < 5; i++) {
                acts.add(new ArrayList<>());
            }
        }

        boolean noHand(int hand) {
            return hand < 0 || hand > 4;
        }

        boolean noText(int text) {
            return text < 0 || text > 2;
        }

        boolean noFormat(int format) {
            return format < 0 || format >= formats.size();
        }

        long answer(int[] c) {
            switch (c[0]) {
                case 0: return type(c[1], c[2], (char) c[3]);
                case 1: return erase(c[1], c[2]);
                case 2: return moveTo(c[1], c[2], c[3]);
                case 3: return undo(c[1]);
                case 4: return redo(c[1]);
                case 5: return noHand(c[1]) || noText(c[2]) ? OUTSIDE : texts[c[2]].place(c[1]);
                case 6: return noText(c[1]) ? OUTSIDE : texts[c[1]].word().length();
                case 7: case 8: return noText(c[1]) ? OUTSIDE : signAt(texts[c[1]].word(), c[2]);
                case 9: return noText(c[1]) ? OUTSIDE : texts[c[1]].version;
                case 10: return ask(c[1], c[2], c[3]);
                case 11: return come(c[1]);
                case 12: return drop(c[1]);
                case 13: return noFormat(c[1]) ? OUTSIDE : formats.get(c[1]).state;
                case 14: return noFormat(c[1]) ? OUTSIDE : formats.get(c[1]).sparedNow();
                case 15: return lock(c[1], c[2]);
                case 16: return save(c[1], c[2], c[3]);
                case 17: return write();
                case 18: return queue.size();
                case 19: return noText(c[1]) ? OUTSIDE : texts[c[1]].savedVersion;
                case 20: return noText(c[1]) ? OUTSIDE : texts[c[1]].saved.length();
                default: return noText(c[1]) ? OUTSIDE : signAt(texts[c[1]].saved, c[2]);
            }
        }

        long signAt(String word, int place) {
            return place < 0 || place >= word.length() ? OUTSIDE : word.charAt(place);
        }

        void remember(int hand, int text, MLetter letter, boolean typed) {
            for (MAct a : acts.get(hand)) {
                a.lost |= a.undone;
            }
            MAct a = new MAct();
            a.text = text;
            a.letter = letter;
            a.typed = typed;
            acts.get(hand).add(a);
        }

        long type(int hand, int text, char sign) {
            if (noHand(hand) || noText(text)) {
                return OUTSIDE;
            }
            if (!String.valueOf(sign).matches("[a-zA-Z0-9 /]")) {
                return ILLEGAL;
            }
            MText t = texts[text];
            if (t.row.size() == 150) {
                return STATELESS;
            }
            MLetter l = new MLetter();
            l.sign = sign;
            t.row.add(t.cursors[hand] == null ? t.row.size() : t.row.indexOf(t.cursors[hand]), l);
            t.version++;
            remember(hand, text, l, true);
            return t.place(hand);
        }

        long erase(int hand, int text) {
            if (noHand(hand) || noText(text)) {
                return OUTSIDE;
            }
            MText t = texts[text];
            int place = t.place(hand);
            if (place == 0) {
                return STATELESS;
            }
            MLetter l = t.shown().get(place - 1);
            t.set(l, false);
            remember(hand, text, l, false);
            return t.place(hand);
        }

        long moveTo(int hand, int text, int place) {
            if (noHand(hand) || noText(text) || place < 0 || place > texts[text].shown().size()) {
                return OUTSIDE;
            }
            MText t = texts[text];
            int before = t.place(hand);
            t.cursors[hand] = place == t.shown().size() ? null : t.shown().get(place);
            return before;
        }

        long undo(int hand) {
            if (noHand(hand)) {
                return OUTSIDE;
            }
            MAct latest = null;
            for (MAct a : acts.get(hand)) {
                latest = a.undone ? latest : a;
            }
            if (latest == null) {
                return STATELESS;
            }
            latest.undone = true;
            latest.undoneWhen = ++clock;
            texts[latest.text].set(latest.letter, !latest.typed);
            return latest.text;
        }

        long redo(int hand) {
            if (noHand(hand)) {
                return OUTSIDE;
            }
            MAct last = null;
            for (MAct a : acts.get(hand)) {
                last = a.undone && !a.lost && (last == null || a.undoneWhen > last.undoneWhen) ? a : last;
            }
            if (last == null) {
                return STATELESS;
            }
            last.undone = false;
            texts[last.text].set(last.letter, last.typed);
            return last.text;
        }

        long ask(int text, int kind, int number) {
            if (noText(text)) {
                return OUTSIDE;
            }
            if (kind < 0 || kind > 3 || (kind == 3 ? number < 5 || number > 40 : number != 0)) {
                return ILLEGAL;
            }
            if (formats.size() == 60) {
                return STATELESS;
            }
            MFormat f = new MFormat();
            f.text = texts[text];
            f.number = formats.size();
            f.find(kind, number);
            formats.add(f);
            return f.number;
        }

        long come(int format) {
            if (noFormat(format)) {
                return OUTSIDE;
            }
            MFormat f = formats.get(format);
            if (f.state != 0) {
                return STATELESS;
            }
            List<MChange> todo = new ArrayList<>();
            for (MChange c : f.changes) {
                if (!f.spares(c)) {
                    todo.add(c);
                }
            }
            int version = f.text.version;
            for (MChange c : todo) {
                if (c.to == '-') {
                    f.text.set(c.letter, false);
                } else {
                    c.letter.sign = c.to;
                }
            }
            f.text.version = todo.isEmpty() ? version : version + 1;
            f.state = 1;
            f.spared = f.changes.size() - todo.size();
            return todo.size();
        }

        long drop(int format) {
            if (noFormat(format)) {
                return OUTSIDE;
            }
            MFormat f = formats.get(format);
            if (f.state != 0) {
                return STATELESS;
            }
            f.state = 2;
            return f.changes.size();
        }

        long lock(int hand, int text) {
            if (noHand(hand) || noText(text)) {
                return OUTSIDE;
            }
            MText t = texts[text];
            if (t.lockedBy == hand) {
                t.lockedBy = -1;
                return 0;
            }
            if (t.lockedBy >= 0) {
                return STATELESS;
            }
            t.lockedBy = hand;
            return 1;
        }

        long save(int hand, int text, int format) {
            if (noHand(hand) || noText(text) || format != -1 && noFormat(format)) {
                return OUTSIDE;
            }
            if (format != -1 && formats.get(format).text != texts[text]) {
                return ILLEGAL;
            }
            if (saves == 60) {
                return STATELESS;
            }
            MSave s = new MSave();
            s.number = saves++;
            s.hand = hand;
            s.text = texts[text];
            s.format = format == -1 ? null : formats.get(format);
            queue.add(s);
            return s.number;
        }

        long write() {
            List<MText> passed = new ArrayList<>();
            for (MSave s : queue) {
                boolean barred = s.format != null && s.format.state == 0
                        || s.text.lockedBy >= 0 && s.text.lockedBy != s.hand || passed.contains(s.text);
                if (!barred) {
                    queue.remove(s);
                    s.text.saved = s.text.word();
                    s.text.savedVersion = s.text.version;
                    return s.number;
                }
                passed.add(s.text);
            }
            return -1;
        }
    }
}
