import java.util.Random;

/** Runs of calls by chance, the same ones each time, asked of SilkRise and of the Model. */
public final class RandomRunsTest {
    private static final int RUNS = 1500;
    private static final int CALLS = 512;
    private static final String[] VARS = {"hour", "day", "size", "weight", "high", "across", "price", "up", "stored"};

    private final Random random;
    private final SilkRise x = new SilkRise();
    private final Model m = new Model();
    private final int run;
    private int calls = 0;

    private RandomRunsTest(int run) {
        this.run = run;
        this.random = new Random(1000 + run);
    }

    public static void main(String[] args) {
        int runs = args.length > 0 ? Integer.parseInt(args[0]) : RUNS;
        int first = args.length > 1 ? Integer.parseInt(args[1]) : 0;
        for (int run = first; run < first + runs && Due.wrongSoFar() < 20; run++) {
            new RandomRunsTest(run).go();
        }
        Due.end("RandomRunsTest");
    }

    private void go() {
        while (calls < CALLS - 120) {
            int kind = random.nextInt(400);
            if (calls == 0 || kind < 4) {
                text(kind < 2 ? mutated(someText()) : someText());
            } else {
                call();
            }
        }
    }

    private void same(String call, long got, long want) {
        calls++;
        Due.due("run " + run + " call " + calls + ": " + call, got, want);
    }

    private void same(String call, boolean got, long want) {
        same(call, got ? 1 : 0, want);
    }

    private int upTo(int most) {
        return random.nextInt(most + 1);
    }

    /** A number of a thing: now and then one that is not. */
    private int which(int size) {
        return random.nextInt(12) == 0 ? random.nextInt(size + 3) - 1 : random.nextInt(Math.max(size, 1));
    }

    private void text(String text) {
        byte[] bytes = Due.bytes(text);
        int length = Math.min(bytes.length, 2000);
        for (int from = 0; from < length; from += 20) {
            int[] words = new int[5];
            for (int i = 0; i < 20; i++) {
                words[i / 4] = words[i / 4] << 8 | (from + i < length ? bytes[from + i] & 255 : 0);
            }
            same("feed", x.feed(words[0], words[1], words[2], words[3], words[4]), m.feed(words));
        }
        int rest = (20 - length % 20) % 20;
        same("back(" + rest + ")", x.back(rest), m.back(rest));
        same("read() of " + text, x.read(), m.read());
        same("place()", x.place(), m.place());
        for (int what = 0; what < 16; what++) {
            same("count(" + what + ")", x.count(what), m.count(what));
        }
    }

    private String unit(int depth) {
        int kind = random.nextInt(10);
        if (depth > 0 && kind < 2) {
            return "(" + sum(depth - 1) + ")";
        }
        if (kind < 6) {
            return VARS[random.nextInt(VARS.length)];
        }
        return String.valueOf(random.nextInt(20) == 0 ? random.nextInt(10000) : random.nextInt(10));
    }

    private String product(int depth) {
        StringBuilder s = new StringBuilder(unit(depth));
        while (random.nextInt(4) == 0) {
            s.append(random.nextInt(3) == 0 ? "/" : "*").append(unit(depth));
        }
        return s.toString();
    }

    private String sum(int depth) {
        StringBuilder s = new StringBuilder(product(depth));
        while (random.nextInt(3) == 0) {
            s.append(random.nextBoolean() ? " + " : "-").append(product(depth));
        }
        return s.toString();
    }

    private String law() {
        StringBuilder s = new StringBuilder();
        while (random.nextInt(3) == 0) {
            s.append("if ").append(sum(2)).append(" < ").append(sum(2)).append(" then ").append(sum(2)).append(" else ");
        }
        return s.append(sum(5)).toString();
    }

    private String lift() {
        switch (random.nextInt(5)) {
            case 0:
                return "size - weight + " + law().replaceAll("^if.* else ", "");
            case 1:
                return "if hour < " + upTo(23) + " then size - weight else " + upTo(3) + " - high / 5 + up";
            case 2:
                return "1 + size / (weight + 1) + stored";
            case 3:
                return law();
            default:
                return "size - weight";
        }
    }

    private String wind() {
        switch (random.nextInt(4)) {
            case 0:
                return "high / " + upTo(6) + " - across / " + (1 + upTo(9));
            case 1:
                return "if across < " + upTo(19) + " then 1 else 0 - 1";
            case 2:
                return law();
            default:
                return "hour / 8 - 1";
        }
    }

    private String someText() {
        StringBuilder s = new StringBuilder();
        int most = random.nextInt(8) == 0 ? 9 : 7;
        int loads = random.nextInt(most);
        int silks = random.nextInt(random.nextInt(8) == 0 ? 7 : 6);
        int hooks = random.nextInt(random.nextInt(8) == 0 ? 7 : 6);
        int rim = random.nextInt(20) == 0 ? 99 : 3 + upTo(20);
        for (int i = 0; i < loads; i++) {
            s.append("load ").append((char) ('a' + i)).append(' ').append(upTo(19)).append(' ').append(1 + upTo(6)).append(' ')
                    .append(upTo(40)).append("; ");
        }
        for (int i = 0; i < silks; i++) {
            s.append("silk ").append((char) ('k' + i)).append(' ').append(3 + upTo(6)).append(random.nextBoolean() ? " -" : " ")
                    .append(upTo(2)).append(";");
        }
        for (int i = 0; i < hooks; i++) {
            s.append("hook h").append((char) ('a' + i)).append(' ').append(upTo(19)).append(' ').append(upTo(5)).append(' ')
                    .append(1 + upTo(random.nextInt(3) == 0 ? 8 : 1)).append(";\n");
        }
        if (random.nextBoolean()) {
            s.append("rim ").append(rim).append(";");
        }
        if (random.nextBoolean()) {
            s.append("gusts ").append(random.nextInt(101)).append("; seed ").append(random.nextInt(10000)).append(";");
        }
        if (random.nextInt(3) > 0) {
            s.append("lift = ").append(lift()).append(";");
        }
        if (random.nextBoolean()) {
            s.append("wind = ").append(wind()).append(";");
        }
        if (random.nextBoolean()) {
            s.append("ties = ").append(random.nextBoolean() ? law() : "size / 2 + hour / 3 + up").append(";");
        }
        if (random.nextBoolean()) {
            s.append("pays = ").append(random.nextBoolean() ? law() : "price + hour - up * 2 + stored").append(";");
        }
        return s.toString();
    }

    private String mutated(String text) {
        StringBuilder s = new StringBuilder(text);
        String[] parts = {"load", "silk", " hook ", "if ", "1 < 2 ", "then", "else ", "(", ")", "((((((", ";", "=", "20", "0", "12345", "-", "+", "*",
            "abcdefghi", "abcdefgh", "A", ".", "\u00e9", "rim 5;", "rim 100;", "lift=1;", "if 1<2 then 3 else ", " a ", "ka", ""};
        for (int i = random.nextInt(3); i >= 0; i--) {
            int at = random.nextInt(s.length() + 1);
            int end = random.nextInt(3) == 0 ? Math.min(s.length(), at + random.nextInt(8)) : at;
            s.replace(at, end, parts[random.nextInt(parts.length)]);
        }
        if (random.nextInt(6) == 0) {
            s.append("rim 5;".repeat(130)).append("lift = 1+1+1+1+1+1;".repeat(random.nextInt(4)));
        }
        return s.toString();
    }

    private void call() {
        int load = which(m.count(0));
        int silk = which(m.count(1));
        int hook = which(m.count(2));
        int n = random.nextInt(10) == 0 ? random.nextInt(76) - 2 : random.nextInt(9);
        int at = random.nextInt(22) - 1;
        if (random.nextInt(3) == 0) {
            doSome(load, silk, hook, n, at);
        } else if (random.nextBoolean()) {
            look(load, silk, hook, at);
        } else {
            foresee(load, silk, hook, n, at);
        }
    }

    private void doSome(int load, int silk, int hook, int n, int at) {
        switch (random.nextInt(12)) {
            case 0:
            case 1:
            case 2:
                same("tie(" + load + ", " + silk + ")", x.tie(load, silk), m.tie(load, silk));
                break;
            case 3:
            case 4:
                same("hours(1)", x.hours(1), m.hours(1));
                break;
            case 5:
                same("hours(" + n + ")", x.hours(n), m.hours(n));
                break;
            case 6:
                same("move(" + hook + ", " + at + ")", x.move(hook, at), m.move(hook, at));
                break;
            case 7:
                boolean more = random.nextBoolean();
                same("patch(" + silk + ", " + more + ")", x.patch(silk, more), m.patch(silk, more));
                break;
            case 8:
                same("undo()", x.undo(), m.undo());
                break;
            case 9:
                int slot = which(3);
                same("hold(" + slot + ")", x.hold(slot), m.hold(slot));
                break;
            case 10:
                int from = which(3);
                same("restore(" + from + ")", x.restore(from), m.restore(from));
                break;
            default:
                undoMany();
                break;
        }
    }

    private void undoMany() {
        for (int i = random.nextInt(12); i > 0 && random.nextInt(4) == 0; i--) {
            same("undo()", x.undo(), m.undo());
        }
    }

    private void look(int load, int silk, int hook, int at) {
        int what = random.nextInt(9) - 1;
        switch (random.nextInt(7)) {
            case 0:
                same("load(" + load + ", " + what + ")", x.load(load, what), m.load(load, what));
                break;
            case 1:
                same("silk(" + silk + ", " + what + ")", x.silk(silk, what), m.silk(silk, what));
                break;
            case 2:
                same("pull(" + silk + ")", x.pull(silk), m.pull(silk));
                break;
            case 3:
                same("hook(" + hook + ", " + what + ")", x.hook(hook, what), m.hook(hook, what));
                break;
            case 4:
                same("tells(" + load + ", " + silk + ", " + what + ")", x.tells(load, silk, what), m.tells(load, silk, what));
                break;
            case 5:
                same("near(" + at + ")", x.near(at), m.near(at));
                break;
            default:
                int of = random.nextInt(18) - 1;
                same("count(" + of + ")", x.count(of), m.count(of));
                break;
        }
    }

    private void foresee(int load, int silk, int hook, int n, int at) {
        int what = random.nextInt(8) == 0 ? random.nextInt(6) - 1 : random.nextInt(2);
        int w = random.nextInt(27) - 1;
        switch (random.nextInt(14)) {
            case 0:
            case 1:
                int part = random.nextInt(4);
                same("flight(" + load + ", " + silk + ", " + w + ", " + part + ")", x.flight(load, silk, w, part), m.flight(load, silk, w, part));
                break;
            case 2:
                same("soon(" + load + ", " + silk + ", " + hook + ")", x.soon(load, silk, hook), m.soon(load, silk, hook));
                break;
            case 3:
                same("patches(" + load + ", " + silk + ", " + hook + ")", x.patches(load, silk, hook), m.patches(load, silk, hook));
                break;
            case 4:
                same("lifts(" + silk + ", " + at + ")", x.lifts(silk, at), m.lifts(silk, at));
                break;
            case 5:
                int of = random.nextBoolean() ? -1 : load;
                same("fill(" + of + ")", x.fill(of), m.fill(of));
                break;
            case 6:
                if (random.nextInt(3) == 0) {
                    same("fewest()", x.fewest(), m.fewest());
                }
                break;
            case 7:
                same("waits(" + load + ", " + silk + ", " + what + ")", x.waits(load, silk, what), m.waits(load, silk, what));
                break;
            case 8:
                int how = random.nextInt(3);
                same("then(" + load + ", " + n + ", " + how + ")", x.then(load, n, how), m.then(load, n, how));
                break;
            case 9:
                same("earns(" + n + ")", x.earns(n), m.earns(n));
                break;
            case 10:
                int s = random.nextInt(22);
                same("year(" + load + ", " + n + ", " + s + ")", x.year(load, n, s), m.year(load, n, s));
                break;
            default:
                tellOrAsk(what, at);
                break;
        }
    }

    private void tellOrAsk(int what, int at) {
        int k = random.nextInt(Math.max(1, m.count(12)) + 1) - random.nextInt(10) / 9;
        switch (random.nextInt(5)) {
            case 0:
                int[] a = {3 + upTo(7), 1 + upTo(4), random.nextInt(20), random.nextInt(4), at};
                a[4] = random.nextBoolean() ? Math.max(0, Math.min(19, a[2] + a[3] * (upTo(6) - 3))) : at;
                same("tell", x.tell(a[0], a[1], a[2], a[3], a[4]), m.tell(a[0], a[1], a[2], a[3], a[4]));
                break;
            case 1:
                if (random.nextInt(4) == 0) {
                    same("forget()", x.forget(), m.forget());
                }
                break;
            case 2:
                same("pulls(" + k + ", " + what + ")", x.pulls(k, what), m.pulls(k, what));
                break;
            default:
                same("sure(" + k + ")", x.sure(k), m.sure(k));
                break;
        }
    }
}
