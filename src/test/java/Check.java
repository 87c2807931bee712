import java.nio.charset.StandardCharsets;
import java.util.NoSuchElementException;

/** What the tests share: answers that are due, and texts that are fed. */
final class Check {
    interface Call {
        void run();
    }

    private static int checks = 0;
    private static int wrong = 0;

    private Check() {
    }

    static void due(String what, long got, long want) {
        checks++;
        if (got != want) {
            wrong++;
            if (wrong <= 50) {
                System.out.println(what + " answered " + got + ", due is " + want);
            }
        }
    }

    static void due(String what, boolean got, boolean want) {
        due(what, got ? 1 : 0, want ? 1 : 0);
    }

    static void noSuch(String what, Call call) {
        due(what + " throws NoSuchElementException", thrownBy(call) == NoSuchElementException.class, true);
    }

    static void illegal(String what, Call call) {
        due(what + " throws IllegalArgumentException", thrownBy(call) == IllegalArgumentException.class, true);
    }

    private static Class<?> thrownBy(Call call) {
        try {
            call.run();
            return null;
        } catch (RuntimeException e) {
            return e.getClass();
        }
    }

    /** Feeds a text, with blanks behind it to a whole number of twenties; answers its length. */
    static int feed(GivenAway x, String text) {
        byte[] bytes = text.getBytes(StandardCharsets.ISO_8859_1);
        for (int from = 0; from < bytes.length; from += 20) {
            int[] numbers = new int[5];
            for (int i = 0; i < 20; i++) {
                int at = from + i;
                numbers[i / 4] = numbers[i / 4] << 8 | (at < bytes.length ? bytes[at] & 255 : 32);
            }
            x.feed(numbers[0], numbers[1], numbers[2], numbers[3], numbers[4]);
        }
        return bytes.length;
    }

    static int dale(GivenAway x, String text) {
        return x.dale(feed(x, text));
    }

    /** A new object that has read a text without a fault. */
    static GivenAway of(String text) {
        GivenAway x = new GivenAway();
        due("dale of " + text, dale(x, text), 0);
        return x;
    }

    static void end(String name) {
        System.out.println(name + ": " + checks + " checks, " + wrong + " wrong");
        if (wrong != 0) {
            System.exit(1);
        }
    }
}
