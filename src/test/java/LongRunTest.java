import java.util.Random;

/** Far beyond 512 calls, and for any arguments, nothing is thrown but what the document names. */
public final class LongRunTest {
    private static final int[] NUMBERS = {
        0, 1, 2, 3, 4, 5, 40, 59, 60, 149, 150, 151, -1, -2, Integer.MAX_VALUE, Integer.MIN_VALUE,
    };

    public static void main(String[] args) {
        for (int seed = 0; seed < 20; seed++) {
            Random dice = new Random(seed);
            CursorKeep k = new CursorKeep();
            for (int i = 0; i < 20000; i++) {
                int[] c = new int[5];
                c[0] = dice.nextInt(22);
                for (int j = 1; j < 5; j++) {
                    c[j] = dice.nextInt(4) == 0 ? NUMBERS[dice.nextInt(NUMBERS.length)] : dice.nextInt(3);
                }
                String fault = fault(k, c, " a/bZ0".charAt(dice.nextInt(6)));
                if (fault != null) {
                    System.out.println("LongRunTest: run " + seed + ", call " + i + ": " + fault);
                    System.exit(1);
                }
            }
        }
        System.out.println("LongRunTest: all stands");
    }

    private static String fault(CursorKeep k, int[] c, char sign) {
        try {
            call(k, c, sign);
            return null;
        } catch (RuntimeException e) {
            Class<?> thrown = e.getClass();
            boolean named = thrown == IndexOutOfBoundsException.class || thrown == IllegalStateException.class
                    || thrown == IllegalArgumentException.class && (c[0] == 0 || c[0] == 10 || c[0] == 16);
            return named ? null : "call " + c[0] + " throws " + e;
        }
    }

    private static void call(CursorKeep k, int[] c, char sign) {
        switch (c[0]) {
            case 0: k.type(c[1], c[2], c[3] == 5 ? (char) c[4] : sign); break;
            case 1: k.erase(c[1], c[2]); break;
            case 2: k.moveTo(c[1], c[2], c[3]); break;
            case 3: k.undo(c[1]); break;
            case 4: k.redo(c[1]); break;
            case 5: k.place(c[1], c[2]); break;
            case 6: k.length(c[1]); break;
            case 7: k.letter(c[1], c[2]); break;
            case 8: k.letterAnew(c[1], c[2]); break;
            case 9: k.version(c[1]); break;
            case 10: k.ask(c[1], c[2], c[3]); break;
            case 11: k.come(c[1]); break;
            case 12: k.drop(c[1]); break;
            case 13: k.state(c[1]); break;
            case 14: k.spared(c[1]); break;
            case 15: k.lock(c[1], c[2]); break;
            case 16: k.save(c[1], c[2], c[3]); break;
            case 17: k.write(); break;
            case 18: k.queued(); break;
            case 19: k.savedVersion(c[1]); break;
            case 20: k.savedLength(c[1]); break;
            default: k.savedLetter(c[1], c[2]); break;
        }
    }
}
