import java.nio.charset.StandardCharsets;

/** What the tests share: saying what is due, and giving an object a text. */
final class Due {
    private static int wrong = 0;
    private static int asked = 0;

    private Due() {
    }

    static void due(String call, long got, long want) {
        asked++;
        if (got != want) {
            wrong++;
            System.out.println(call + " answered " + got + ", due is " + want);
        }
    }

    static void due(String call, boolean got, boolean want) {
        due(call, got ? 1 : 0, want ? 1 : 0);
    }

    /** Ends the test: with exit code 1 if an answer was not the due one. */
    static void end(String test) {
        System.out.println(test + ": " + asked + " answers, " + wrong + " not as due");
        if (wrong != 0 || asked == 0) {
            System.exit(1);
        }
    }

    static int wrongSoFar() {
        return wrong;
    }

    static byte[] bytes(String text) {
        return text.getBytes(StandardCharsets.ISO_8859_1);
    }

    static void feed(SilkRise x, byte[] text) {
        for (int from = 0; from < text.length; from += 20) {
            int[] words = new int[5];
            for (int i = 0; i < 20; i++) {
                int b = from + i < text.length ? text[from + i] & 255 : 0;
                words[i / 4] = words[i / 4] << 8 | b;
            }
            x.feed(words[0], words[1], words[2], words[3], words[4]);
        }
        x.back((20 - text.length % 20) % 20);
    }

    static void feed(SilkRise x, String text) {
        feed(x, bytes(text));
    }

    /** The FAULT of a text on a tape that was empty. */
    static int read(SilkRise x, String text) {
        feed(x, text);
        return x.read();
    }

    static SilkRise with(String text) {
        SilkRise x = new SilkRise();
        due("read() of " + text, read(x, text), 0);
        return x;
    }

    static void fault(String text, int kind, int place) {
        SilkRise x = new SilkRise();
        due("read() of " + text, read(x, text), kind);
        due("place() of " + text, x.place(), place);
    }
}
