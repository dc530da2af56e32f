import java.util.Random;

/** Each method asked with numbers from far outside, in many states: no call throws or goes on for ever, all answers are the Model's. */
public final class ExtremesTest {
    private static final int[] VALUES = {Integer.MIN_VALUE, Integer.MIN_VALUE + 1, -1 << 16, -2001, -1000, -100, -73, -33, -32, -25, -20, -10, -4, -3, -2, -1, 0, 1,
        2, 3, 4, 5, 6, 7, 8, 9, 10, 15, 16, 19, 20, 21, 24, 25, 31, 32, 33, 48, 49, 64, 72, 73, 100, 127, 128, 255, 256, 512, 2000, 2001, 1 << 16, 1 << 30,
        Integer.MAX_VALUE - 20, Integer.MAX_VALUE - 1, Integer.MAX_VALUE};
    private static final String[] TEXTS = {"",
        "load a 5 1 9; load b 9 2 8; load c 0 9 1; silk s 9 0; silk t 5 -3; hook h 5 1 1; hook g 9 5 9; rim 12; gusts 40; seed 9999;",
        "load a 0 1 0; load b 19 9 99; load c 5 5 5; load d 5 5 5; load e 5 5 5; load f 5 5 5; load g 5 5 5; silk s 9 3; silk t 1 -3; silk u 5 0; silk v 6 1;"
                + "silk w 7 2; hook ha 0 5 1; hook hb 19 5 9; hook hc 5 0 2; hook hd 9 4 4; hook he 9 4 4; rim 99; lift = 9 - weight / 2 + up; wind = high / 20 - 1;"
                + "ties = 9999 * 9999 * hour; pays = price / hour; gusts 100;",
        "load a 5 5 5; silk s 5 0; hook h 5 5 5; rim 1; lift = 1 - hour / 12 * 2; wind = 9999 * 9999 * 9999 * across; ties = 1 / up;"};

    private final Random random;
    private final SilkRise x = new SilkRise();
    private final Model m = new Model();
    private final int run;

    private ExtremesTest(int run) {
        this.run = run;
        this.random = new Random(run);
    }

    public static void main(String[] args) {
        Due.says("LANGUAGE 7: No call may ever throw or fail to end, for any arguments in any state");
        for (int run = 0; run < 400 && Due.wrongSoFar() < 20; run++) {
            new ExtremesTest(run).go();
        }
        Due.end("ExtremesTest");
    }

    private int any() {
        // A number that is one now and then, so that all get further.
        return random.nextInt(3) == 0 ? random.nextInt(3) : VALUES[random.nextInt(VALUES.length)];
    }

    private void same(String call, long got, long want) {
        Due.due("run " + run + ": " + call, got, want);
    }

    private void same(String call, boolean got, long want) {
        same(call, got ? 1 : 0, want);
    }

    private void go() {
        byte[] text = Due.bytes(TEXTS[run % TEXTS.length]);
        for (int from = 0; from < text.length; from += 20) {
            int[] words = new int[5];
            for (int i = 0; i < 20; i++) {
                words[i / 4] = words[i / 4] << 8 | (from + i < text.length ? text[from + i] : ' ');
            }
            same("feed", x.feed(words[0], words[1], words[2], words[3], words[4]), m.feed(words));
        }
        same("read()", x.read(), m.read());
        for (int i = 0; i < 450; i++) {
            int[] a = {any(), any(), any(), any(), any()};
            if (i % 2 == 0) {
                first(random.nextInt(17), a);
            } else {
                second(random.nextInt(16), a);
            }
        }
    }

    private void first(int method, int[] a) {
        String with = "(" + a[0] + ", " + a[1] + ", " + a[2] + ", " + a[3] + ", " + a[4] + ")";
        switch (method) {
            case 0: same("feed" + with, x.feed(a[0], a[1], a[2], a[3], a[4]), m.feed(a)); break;
            case 1: same("back" + with, x.back(a[0]), m.back(a[0])); break;
            case 2: same("place", x.place(), m.place()); break;
            case 3: same("load" + with, x.load(a[0], a[1]), m.load(a[0], a[1])); break;
            case 4: same("silk" + with, x.silk(a[0], a[1]), m.silk(a[0], a[1])); break;
            case 5: same("pull" + with, x.pull(a[0]), m.pull(a[0])); break;
            case 6: same("hook" + with, x.hook(a[0], a[1]), m.hook(a[0], a[1])); break;
            case 7: same("tells" + with, x.tells(a[0], a[1], a[2]), m.tells(a[0], a[1], a[2])); break;
            case 8: same("tie" + with, x.tie(a[0], a[1]), m.tie(a[0], a[1])); break;
            case 9: same("move" + with, x.move(a[0], a[1]), m.move(a[0], a[1])); break;
            case 10: same("patch" + with, x.patch(a[0], a[1] > 0), m.patch(a[0], a[1] > 0)); break;
            case 11: same("hours" + with, x.hours(a[0]), m.hours(a[0])); break;
            case 12: same("undo", x.undo(), m.undo()); break;
            case 13: same("hold" + with, x.hold(a[0]), m.hold(a[0])); break;
            case 14: same("restore" + with, x.restore(a[0]), m.restore(a[0])); break;
            case 15: same("count" + with, x.count(a[0]), m.count(a[0])); break;
            default: same("read of what is none", a[0] < 9 ? 0 : x.read(), a[0] < 9 ? 0 : m.read()); break;
        }
    }

    private void second(int method, int[] a) {
        String with = "(" + a[0] + ", " + a[1] + ", " + a[2] + ", " + a[3] + ", " + a[4] + ")";
        switch (method) {
            case 0: same("flight" + with, x.flight(a[0], a[1], a[2], a[3]), m.flight(a[0], a[1], a[2], a[3])); break;
            case 1: same("soon" + with, x.soon(a[0], a[1], a[2]), m.soon(a[0], a[1], a[2])); break;
            case 2: same("patches" + with, x.patches(a[0], a[1], a[2]), m.patches(a[0], a[1], a[2])); break;
            case 3: same("near" + with, x.near(a[0]), m.near(a[0])); break;
            case 4: same("lifts" + with, x.lifts(a[0], a[1]), m.lifts(a[0], a[1])); break;
            case 5: same("fill" + with, x.fill(a[0]), m.fill(a[0])); break;
            case 6: same("fill(-1)", x.fill(-1), m.fill(-1)); break;
            case 7: same("waits" + with, x.waits(a[0], a[1], a[2]), m.waits(a[0], a[1], a[2])); break;
            case 8: same("then" + with, x.then(a[0], a[1], a[2]), m.then(a[0], a[1], a[2])); break;
            case 9: same("earns" + with, x.earns(a[0]), m.earns(a[0])); break;
            case 10: same("year" + with, x.year(a[0], a[1], a[2]), m.year(a[0], a[1], a[2])); break;
            case 11: same("tell" + with, x.tell(a[0], a[1], a[2], a[3], a[4]), m.tell(a[0], a[1], a[2], a[3], a[4])); break;
            case 12: same("forget", a[0] < 20 ? 0 : x.forget(), a[0] < 20 ? 0 : m.forget()); break;
            case 13: same("pulls" + with, x.pulls(a[0], a[1]), m.pulls(a[0], a[1])); break;
            case 14: same("sure" + with, x.sure(a[0]), m.sure(a[0])); break;
            default: same("fewest", a[0] < 20 ? 0 : x.fewest(), a[0] < 20 ? 0 : m.fewest()); break;
        }
    }
}
