import java.nio.charset.StandardCharsets;
import java.util.Arrays;

/** What the tests share: saying what is due, and giving an object a text. */
final class Due {
    private static int wrong = 0;
    private static int asked = 0;
    private static String sentence = "";

    private Due() {
    }

    static void due(String call, long got, long want) {
        asked++;
        if (got != want) {
            wrong++;
            System.out.println(sentence + call + " answered " + got + ", due is " + want);
        }
    }

    static void due(String call, boolean got, boolean want) {
        due(call, got ? 1 : 0, want ? 1 : 0);
    }

    /** The sentence of the document that what follows would break. */
    static void says(String of) {
        sentence = "[" + of + "] ";
    }

    /** All that is told without asking what would be. */
    static int[] seen(SilkRise x) {
        int[] seen = new int[200];
        int n = 0;
        for (int what = 0; what < 16; what++) {
            seen[n++] = x.count(what);
        }
        for (int load = 0; load < seen[0]; load++) {
            for (int what = 0; what < 7; what++) {
                seen[n++] = x.load(load, what);
            }
        }
        for (int silk = 0; silk < seen[1]; silk++) {
            for (int what = 0; what < 3; what++) {
                seen[n++] = x.silk(silk, what);
            }
            seen[n++] = x.pull(silk);
        }
        for (int hook = 0; hook < seen[2]; hook++) {
            for (int what = 0; what < 4; what++) {
                seen[n++] = x.hook(hook, what);
            }
        }
        seen[n++] = x.place();
        return Arrays.copyOf(seen, n);
    }

    /** That all is as it was seen ahead. */
    static void asSeen(String behind, SilkRise x, int[] ahead) {
        int[] now = seen(x);
        due("behind " + behind + ": how much is told", now.length, ahead.length);
        for (int i = 0; i < Math.min(now.length, ahead.length); i++) {
            due("behind " + behind + ": the answer " + i + " of all", now[i], ahead[i]);
        }
    }

    /** Ends the test: with exit code 1 if an answer was not the due one. */
    static void end(String test) {
        System.out.println(test + ": " + asked + " answers, " + wrong + " not as due");
        if (wrong != 0 || asked == 0) {
            System.exit(1);
        }
    }

    static int wrongSoFar() {
        return wrong;
    }

    static byte[] bytes(String text) {
        return text.getBytes(StandardCharsets.ISO_8859_1);
    }

    static void feed(SilkRise x, byte[] text) {
        for (int from = 0; from < text.length; from += 20) {
            int[] words = new int[5];
            for (int i = 0; i < 20; i++) {
                int b = from + i < text.length ? text[from + i] & 255 : 0;
                words[i / 4] = words[i / 4] << 8 | b;
            }
            x.feed(words[0], words[1], words[2], words[3], words[4]);
        }
        x.back((20 - text.length % 20) % 20);
    }

    static void feed(SilkRise x, String text) {
        feed(x, bytes(text));
    }

    /** The FAULT of a text on a tape that was empty. */
    static int read(SilkRise x, String text) {
        feed(x, text);
        return x.read();
    }

    static SilkRise with(String text) {
        SilkRise x = new SilkRise();
        due("read() of " + text, read(x, text), 0);
        return x;
    }

    static void fault(String text, int kind, int place) {
        SilkRise x = new SilkRise();
        due("read() of " + text, read(x, text), kind);
        due("place() of " + text, x.place(), place);
    }
}
