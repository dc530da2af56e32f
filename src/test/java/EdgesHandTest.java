/** Each boundary of promises 6 to 15: what is told of things, what is done by hand, what is undone. */
public final class EdgesHandTest {
    private static final int[] OTHERS = {-1, -2, -3, 2, 3, 5, 7, 8, 31, 32, 100, 1 << 16, Integer.MIN_VALUE, Integer.MIN_VALUE + 1, Integer.MAX_VALUE};
    private static final String TEXT = "load a 5 2 10; load b 8 6 30; silk s 7 1; silk t 8 -1; hook h 7 1 1; hook g 1 1 1; ties = 3 + up; rim 10;";

    public static void main(String[] args) {
        notInTheAir();
        noneHookedIt();
        noSuchThings();
        noSuchWhats();
        tellsOfAny();
        tellsNow();
        tied();
        tiedNoSuchOnes();
        tiedNotAtTheFoot();
        tiesAsItIsTied();
        moved();
        movedNot();
        patched();
        patchedNot();
        hoursBetween();
        hoursNot();
        undoneNothing();
        undoneEach();
        undoneInTurn();
        undoneTheLastForty();
        undoneNotTheRest();
        Due.end("EdgesHandTest");
    }

    private static void ofALoad(String when, SilkRise x, int load, int... due) {
        for (int what = 0; what < 7; what++) {
            Due.due(when + ": load(" + load + ", " + what + ")", x.load(load, what), due[what]);
        }
    }

    private static void notInTheAir() {
        Due.says("6: 4 how high (0: not in the air), 5 its SILK (-2: not in the air); 7: 1 its LOAD (-2: at the foot)");
        SilkRise x = Due.with("load a 5 1 10; load b 5 2 20; load c 9 3 30; silk s 5 0; silk t 5 0; silk u 5 0; hook h 5 0 1; rim 8;"
                + "lift = if weight < 3 then 4 else if hour < 1 then 2 else 0 - 2;");
        ofALoad("at the foot", x, 0, 5, 1, 10, 0, 0, -2, -2);
        ofALoad("at the foot", x, 1, 5, 2, 20, 0, 0, -2, -2);
        ofALoad("at the foot", x, 2, 9, 3, 30, 0, 0, -2, -2);
        for (int i = 0; i < 3; i++) {
            Due.due("at the foot", x.silk(i, 1), -2);
            Due.due("never let go", x.silk(i, 2), 0);
        }
        for (int i = 0; i < 3; i++) {
            x.tie(i, 2 - i);
            Due.due("in the air", x.silk(2 - i, 1), i);
            Due.due("let go once", x.silk(2 - i, 2), 1);
        }
        ofALoad("let go", x, 0, 5, 1, 10, 1, 0, 2, -2);
        ofALoad("let go", x, 2, 9, 3, 30, 1, 0, 0, -2);
        x.hours(1);
        ofALoad("in the air", x, 0, 5, 1, 10, 1, 4, 2, -2);
        ofALoad("in the air", x, 1, 5, 2, 20, 1, 4, 1, -2);
        ofALoad("in the air", x, 2, 9, 3, 30, 1, 2, 0, -2);
        x.hours(1);
        ofALoad("STORED", x, 0, 5, 1, 10, 2, 0, -2, 0);
        ofALoad("MISSED", x, 1, 5, 2, 20, 3, 0, -2, -2);
        ofALoad("LANDED", x, 2, 9, 3, 30, 0, 0, -2, -2);
        for (int i = 0; i < 3; i++) {
            Due.due("at the foot again", x.silk(i, 1), -2);
            Due.due("let go once", x.silk(i, 2), 1);
        }
    }

    private static void noneHookedIt() {
        Due.says("6: 6 the HOOK that hooked it (-2: none); 9: 3 LOADS that it hooked so far (bits)");
        SilkRise x = Due.with("load a 1 1 1; load b 5 1 1; load c 9 1 1; load d 1 1 1; load e 13 1 1; silk s 9 0; hook h 1 0 1; hook g 5 0 1; hook f 9 0 1; rim 8;");
        int[] due = {0, 1, 2, 0, -2};
        for (int load = 0; load < 5; load++) {
            Due.due("not yet", x.load(load, 6), -2);
            x.tie(load, 0);
            Due.due("in the air", x.load(load, 6), -2);
            x.hours(1);
            Due.due("the HOOK", x.load(load, 6), due[load]);
        }
        int[] bits = {9, 2, 4};
        for (int hook = 0; hook < 3; hook++) {
            Due.due("hook(" + hook + ", 3)", x.hook(hook, 3), bits[hook]);
        }
        x.undo();
        x.undo();
        x.undo();
        Due.due("undone, hook(0, 3)", x.hook(0, 3), 1);
        Due.due("undone, load(3, 6)", x.load(3, 6), -2);
    }

    private static void noSuchThings() {
        Due.says("6 to 10: NONE for others, no such ones");
        SilkRise x = Due.with(TEXT);
        int[] ahead = Due.seen(x);
        for (int i : OTHERS) {
            Due.due("load(" + i + ", 0)", x.load(i, 0), -1);
            Due.due("load(" + i + ", 5)", x.load(i, 5), -1);
            Due.due("silk(" + i + ", 0)", x.silk(i, 0), -1);
            Due.due("silk(" + i + ", 1)", x.silk(i, 1), -1);
            Due.due("pull(" + i + ")", x.pull(i), -100);
            Due.due("hook(" + i + ", 0)", x.hook(i, 0), -1);
            for (int what = 0; what < 4; what++) {
                Due.due("tells(" + i + ", 0, " + what + ")", x.tells(i, 0, what), -100);
            }
        }
        Due.asSeen("others", x, ahead);
    }

    private static void noSuchWhats() {
        Due.says("6 to 10, 33: NONE for others, no such what");
        SilkRise x = Due.with(TEXT);
        int[] mores = {0, 1, 2, 93, Integer.MAX_VALUE - 20};
        for (int more : mores) {
            Due.due("load(0, 7 and more)", x.load(0, 7 + more), -1);
            Due.due("silk(0, 3 and more)", x.silk(0, 3 + more), -1);
            Due.due("hook(0, 4 and more)", x.hook(0, 4 + more), -1);
            Due.due("tells(0, 0, 4 and more)", x.tells(0, 0, 4 + more), -100);
            Due.due("count(16 and more)", x.count(16 + more), -1);
        }
        for (int what : new int[] {-1, -2, Integer.MIN_VALUE}) {
            Due.due("load(0, " + what + ")", x.load(0, what), -1);
            Due.due("silk(0, " + what + ")", x.silk(0, what), -1);
            Due.due("hook(0, " + what + ")", x.hook(0, what), -1);
            Due.due("tells(0, 0, " + what + ")", x.tells(0, 0, what), -100);
            Due.due("count(" + what + ")", x.count(what), -1);
        }
        // The last thing's first what is not the first thing's one beyond the last.
        Due.due("load(1, 0)", x.load(1, 0), 8);
        Due.due("silk(1, 0)", x.silk(1, 0), 8);
        Due.due("hook(1, 0)", x.hook(1, 0), 1);
        Due.due("load(1, -1)", x.load(1, -1), -1);
        Due.due("silk(1, -1)", x.silk(1, -1), -1);
        Due.due("hook(1, -1)", x.hook(1, -1), -1);
    }

    private static void tellsOfAny() {
        Due.says("10: the SILK looked at for 0 and 2 alone");
        SilkRise x = Due.with(TEXT);
        for (int i : OTHERS) {
            Due.due("tells(0, " + i + ", 0)", x.tells(0, i, 0), -100);
            Due.due("tells(0, " + i + ", 1)", x.tells(0, i, 1), 0);
            Due.due("tells(0, " + i + ", 2)", x.tells(0, i, 2), -100);
            Due.due("tells(0, " + i + ", 3)", x.tells(0, i, 3), 10);
        }
        SilkRise bare = Due.with("load a 5 2 10;");
        int[] due = {-100, 0, -100, 10};
        for (int what = 0; what < 4; what++) {
            Due.due("without a SILK tells(0, 0, " + what + ")", bare.tells(0, 0, what), due[what]);
        }
    }

    private static void tellsNow() {
        Due.says("10: What a LAW tells now: of a LOAD tied to a SILK, 0 high, at its X");
        SilkRise x = Due.with("load a 5 2 10; load b 8 6 30; silk s 9 1; silk t 8 -1; hook h 7 1 1; rim 14; lift = size - weight + high - across / 5;"
                + "wind = across - 6 + high; ties = weight + hour; pays = price + hour;");
        int[] due = {6, -1, 2, 10};
        for (int what = 0; what < 4; what++) {
            Due.due("at the foot tells(0, 0, " + what + ")", x.tells(0, 0, what), due[what]);
        }
        x.tie(0, 0);
        x.hours(1);
        // It is 6 high now and at 5 - 1 + 1; it is told as if 0 high, in the air or not.
        Due.due("high", x.load(0, 4), 6);
        int[] later = {6, -1, 3, 11};
        for (int what = 0; what < 4; what++) {
            Due.due("in the air tells(0, 0, " + what + ")", x.tells(0, 0, what), later[what]);
        }
        Due.due("by the other SILK", x.tells(0, 1, 0), 5);
        x.hours(1);
        Due.due("it is over", x.load(0, 3) > 1, true);
        int at = x.load(0, 0);
        Due.due("X behind it", at, 9);
        int[] behind = {6, 3, 4, 12};
        for (int what = 0; what < 4; what++) {
            Due.due("no more in the air tells(0, 0, " + what + ")", x.tells(0, 0, what), behind[what]);
        }
    }

    private static void tied() {
        Due.says("11: TIED and let go: it is in the air, 0 high, at its X; what TIES tells is paid");
        SilkRise x = Due.with(TEXT);
        Due.due("tie(1, 0)", x.tie(1, 0), 3);
        int[] load = {8, 6, 30, 1, 0, 0, -2};
        int[] silk = {7, 1, 1};
        for (int what = 0; what < 7; what++) {
            Due.due("load(1, " + what + ")", x.load(1, what), load[what]);
        }
        for (int what = 0; what < 3; what++) {
            Due.due("silk(0, " + what + ")", x.silk(0, what), silk[what]);
        }
        Due.due("pull(0)", x.pull(0), 1);
        Due.due("paid", x.count(9), 3);
        Due.due("count(4)", x.count(4), 1);
        Due.due("count(5)", x.count(5), 2);
        Due.due("the hour", x.count(3), 0);
        Due.due("things done", x.count(11), 1);
        SilkRise last = Due.with("load a 1 1 1;load b 1 1 1;load c 1 1 1;load d 1 1 1;load e 1 1 1;load f 1 1 1;load g 1 1 1;silk s 1 1;silk t 1 1;"
                + "silk u 1 1;silk v 1 1;silk w 9 1;");
        Due.due("the last LOAD, the last SILK", last.tie(6, 4), 1);
        Due.due("count(5)", last.count(5), 64);
        Due.due("silk(4, 1)", last.silk(4, 1), 6);
    }

    private static void tiedNoSuchOnes() {
        Due.says("11: NONE: no such ones");
        SilkRise x = Due.with(TEXT);
        x.tie(1, 1);
        int[] ahead = Due.seen(x);
        for (int i : OTHERS) {
            Due.due("tie(" + i + ", 0)", x.tie(i, 0), -1);
            Due.due("tie(0, " + i + ")", x.tie(0, i), -1);
            Due.due("tie(" + i + ", " + i + ")", x.tie(i, i), -1);
            Due.says("Where NONE and -2 could both be told, it is NONE");
            Due.due("tie(1, " + i + "), in the air", x.tie(1, i), -1);
            Due.due("tie(" + i + ", 1), in the air", x.tie(i, 1), -1);
        }
        Due.asSeen("no such ones", x, ahead);
    }

    private static void tiedNotAtTheFoot() {
        Due.says("11: -2, and nothing happens: the LOAD or the SILK is not at the foot");
        SilkRise x = Due.with("load a 5 1 10; load b 9 1 30; load c 5 1 1; silk s 9 0; silk t 3 0; hook h 5 1 1; rim 8;");
        x.tie(0, 0);
        x.tie(1, 1);
        int[] ahead = Due.seen(x);
        Due.due("both in the air, tied together", x.tie(0, 0), -2);
        Due.due("both in the air", x.tie(0, 1), -2);
        Due.due("the SILK in the air", x.tie(2, 0), -2);
        Due.asSeen("tie() in the air", x, ahead);
        x.hours(1);
        ahead = Due.seen(x);
        Due.due("a LOAD that is STORED", x.tie(0, 0), -2);
        Due.due("a LOAD in the air", x.tie(1, 0), -2);
        Due.asSeen("tie() of a STORED one", x, ahead);
        x.hours(3);
        ahead = Due.seen(x);
        Due.due("how the second one is", x.load(1, 3), 3);
        Due.due("a LOAD that is MISSED", x.tie(1, 0), -2);
        Due.asSeen("tie() of a MISSED one", x, ahead);
        Due.due("the last one", x.tie(2, 1), 1);
    }

    private static void tiesAsItIsTied() {
        Due.says("11: what was paid: what TIES tells");
        SilkRise x = Due.with("load a 5 1 10; load b 9 2 30; load c 5 3 1; silk s 9 0; silk t 8 0; silk u 7 0; ties = size * 5 + weight + up * 10 + hour;");
        x.hours(4);
        Due.due("tie(2, 1)", x.tie(2, 1), 40 + 3 + 4);
        Due.due("tie(0, 0)", x.tie(0, 0), 45 + 1 + 10 + 4);
        Due.due("tie(1, 2)", x.tie(1, 2), 35 + 2 + 20 + 4);
        Due.due("paid", x.count(9), 47 + 60 + 61);
        Due.due("earned", x.count(8), 0);
    }

    private static void moved() {
        Due.says("12: MOVED: true (X 0 .. 19)");
        SilkRise x = Due.with("hook h 5 5 1; hook g 5 5 1;");
        for (int at = 0; at <= 19; at++) {
            Due.due("move(1, " + at + ")", x.move(1, at), true);
            Due.due("hook(1, 0)", x.hook(1, 0), at);
            Due.due("hook(0, 0)", x.hook(0, 0), 5);
        }
        Due.due("move(0, 0)", x.move(0, 0), true);
        Due.due("near(2)", x.near(2), 0);
        SilkRise five = Due.with("hook a 5 5 1;hook b 5 5 1;hook c 5 5 1;hook d 5 5 1;hook e 5 5 1;");
        Due.due("the last HOOK", five.move(4, 19), true);
        Due.due("hook(4, 0)", five.hook(4, 0), 19);
        // One that hooked something keeps what it hooked.
        SilkRise kept = Due.with("load a 5 1 1; silk s 9 0; hook h 5 5 1; rim 8;");
        kept.tie(0, 0);
        kept.hours(1);
        Due.due("move(0, 9)", kept.move(0, 9), true);
        Due.due("hook(0, 3)", kept.hook(0, 3), 1);
        Due.due("load(0, 0)", kept.load(0, 0), 5);
    }

    private static void movedNot() {
        Due.says("12: false, and nothing happens: it is there, no such ones (X 0 .. 19)");
        SilkRise x = Due.with("hook h 0 5 1; hook g 19 5 1;");
        x.move(0, 3);
        x.move(0, 0);
        int[] ahead = Due.seen(x);
        Due.due("it is there", x.move(0, 0), false);
        Due.due("it is there", x.move(1, 19), false);
        for (int at : new int[] {-1, -2, 20, 21, 100, Integer.MIN_VALUE, Integer.MAX_VALUE}) {
            Due.due("move(0, " + at + ")", x.move(0, at), false);
            Due.due("move(1, " + at + ")", x.move(1, at), false);
        }
        for (int i : OTHERS) {
            Due.due("move(" + i + ", 5)", x.move(i, 5), false);
            // An other one has no X, not even NONE.
            Due.due("move(" + i + ", -1)", x.move(i, -1), false);
        }
        Due.asSeen("move() refused", x, ahead);
        Due.due("undo() the last one done", x.undo(), true);
        Due.due("hook(0, 0)", x.hook(0, 0), 3);
    }

    private static void patched() {
        Due.says("13: PATCHED: its PULL is 1 more or less (-3 .. 3): true");
        SilkRise x = Due.with("silk s 5 -3; silk t 5 3;");
        for (int pull = -2; pull <= 3; pull++) {
            Due.due("patch(0, true)", x.patch(0, true), true);
            Due.due("pull(0)", x.pull(0), pull);
            Due.due("pull(1)", x.pull(1), 3);
        }
        for (int pull = 2; pull >= -3; pull--) {
            Due.due("patch(1, false)", x.patch(1, false), true);
            Due.due("pull(1)", x.pull(1), pull);
            Due.due("pull(0)", x.pull(0), 3);
        }
        Due.due("things done", x.count(11), 12);
        Due.due("how often let go", x.silk(0, 2), 0);
        SilkRise five = Due.with("silk a 5 0;silk b 5 0;silk c 5 0;silk d 5 0;silk e 5 0;");
        Due.due("the last SILK", five.patch(4, false), true);
        Due.due("pull(4)", five.pull(4), -1);
        SilkRise flown = Due.with("load a 5 1 1; silk s 9 0; rim 8;");
        flown.tie(0, 0);
        flown.hours(1);
        Due.due("one that came back", flown.patch(0, true), true);
    }

    private static void patchedNot() {
        Due.says("13: false, and nothing happens: not at the foot, not beyond 3 either way, no such SILK");
        SilkRise x = Due.with("load a 5 1 1; silk s 2 3; silk t 2 -3; silk u 2 0; rim 99;");
        x.tie(0, 2);
        int[] ahead = Due.seen(x);
        Due.due("beyond 3", x.patch(0, true), false);
        Due.due("beyond -3", x.patch(1, false), false);
        Due.due("not at the foot", x.patch(2, true), false);
        Due.due("not at the foot", x.patch(2, false), false);
        for (int i : new int[] {-1, -2, 3, 5, 100, Integer.MIN_VALUE, Integer.MAX_VALUE}) {
            Due.due("patch(" + i + ", true)", x.patch(i, true), false);
            Due.due("patch(" + i + ", false)", x.patch(i, false), false);
        }
        Due.asSeen("patch() refused", x, ahead);
        x.hours(3);
        Due.due("it goes as it went", x.load(0, 0), 5);
        Due.due("the other way", x.patch(0, false), true);
        Due.due("the other way", x.patch(1, true), true);
    }

    private static void hoursBetween() {
        Due.says("14: n HOURS (0 .. 72) go by: which it is, counted on");
        SilkRise x = Due.with("load a 5 1 1; silk s 2 0; rim 99; lift = if high < 1 then 1 else if day < 4 then 0 else 1;");
        x.tie(0, 0);
        Due.due("hours(1)", x.hours(1), 1);
        Due.due("hours(72)", x.hours(72), 73);
        Due.due("hours(23)", x.hours(23), 96);
        Due.due("high", x.load(0, 4), 1);
        Due.due("hours(72)", x.hours(72), 168);
        Due.due("72 HOURS go by, each", x.load(0, 4), 73);
        Due.says("14: 0 is no thing done");
        int[] ahead = Due.seen(x);
        Due.due("hours(0)", x.hours(0), 168);
        Due.asSeen("hours(0)", x, ahead);
        x.undo();
        Due.due("hours(72) was the last thing done", x.hours(0), 96);
        Due.due("hours(0) of a new object", new SilkRise().hours(0), 0);
        SilkRise bare = new SilkRise();
        Due.due("hours(72) of a new object", bare.hours(72), 72);
        Due.due("a thing done", bare.count(11), 1);
    }

    private static void hoursNot() {
        Due.says("14: NONE, and nothing happens: no such n");
        SilkRise x = Due.with(TEXT);
        x.tie(0, 0);
        x.hours(1);
        int[] ahead = Due.seen(x);
        for (int n : new int[] {-1, -2, -72, 73, 74, 100, 1 << 16, Integer.MIN_VALUE, Integer.MAX_VALUE}) {
            Due.due("hours(" + n + ")", x.hours(n), -1);
        }
        Due.asSeen("hours() refused", x, ahead);
    }

    private static void undoneNothing() {
        Due.says("15: false: there is none");
        SilkRise x = new SilkRise();
        Due.due("undo() of a new object", x.undo(), false);
        x = Due.with(TEXT);
        int[] ahead = Due.seen(x);
        Due.due("undo() of nothing", x.undo(), false);
        Due.asSeen("undo() of nothing", x, ahead);
        x.tie(0, 0);
        Due.due("undo()", x.undo(), true);
        Due.due("undo() once more", x.undo(), false);
        Due.asSeen("all undone", x, ahead);
    }

    private static void undoneEach() {
        Due.says("15: The last thing done (tie, move, patch, hours) is undone: true");
        SilkRise x = Due.with(TEXT);
        x.tie(0, 0);
        x.hours(1);
        int[] ahead = Due.seen(x);
        x.tie(1, 1);
        Due.due("undo() of tie", x.undo(), true);
        Due.asSeen("undo() of tie", x, ahead);
        x.move(1, 0);
        Due.due("undo() of move", x.undo(), true);
        Due.asSeen("undo() of move", x, ahead);
        x.patch(1, true);
        Due.due("undo() of patch", x.undo(), true);
        Due.asSeen("undo() of patch", x, ahead);
        x.hours(72);
        Due.due("STORED", x.load(0, 3), 2);
        Due.due("undo() of hours", x.undo(), true);
        Due.asSeen("undo() of hours", x, ahead);
    }

    private static void undoneInTurn() {
        Due.says("15: The last thing done .. is undone");
        SilkRise x = Due.with("load a 5 1 1; silk s 9 0; silk t 1 0; hook h 5 1 1; rim 8;");
        x.hours(2);
        x.move(0, 6);
        x.patch(1, true);
        x.tie(0, 0);
        x.hours(1);
        Due.due("STORED", x.load(0, 3), 2);
        x.undo();
        Due.due("in the air again", x.load(0, 3), 1);
        Due.due("earned", x.count(8), 0);
        Due.due("the hour", x.count(3), 2);
        x.hours(1);
        Due.due("STORED again", x.load(0, 3), 2);
        Due.due("earned once", x.count(8), 1);
        x.undo();
        x.undo();
        Due.due("at the foot", x.load(0, 3), 0);
        Due.due("paid", x.count(9), 0);
        Due.due("PULL", x.pull(1), 1);
        x.undo();
        Due.due("PULL", x.pull(1), 0);
        Due.due("X", x.hook(0, 0), 6);
        x.undo();
        Due.due("X", x.hook(0, 0), 5);
        Due.due("the hour", x.count(3), 2);
        x.undo();
        Due.due("the hour", x.count(3), 0);
        Due.due("undo()", x.undo(), false);
    }

    private static void undoneTheLastForty() {
        Due.says("15: the last 40 can be");
        for (int done = 39; done <= 42; done++) {
            SilkRise x = new SilkRise();
            for (int i = 0; i < done; i++) {
                x.hours(1);
            }
            Due.due("count(11)", x.count(11), Math.min(done, 40));
            for (int i = 1; i <= Math.min(done, 40); i++) {
                Due.due("undo() " + i + " of " + done, x.undo(), true);
                Due.due("the hour", x.count(3), done - i);
            }
            Due.due("undo() beyond", x.undo(), false);
            Due.due("the hour", x.count(3), Math.max(0, done - 40));
            Due.due("count(11)", x.count(11), 0);
            // And what is done then can be undone again.
            x.hours(5);
            Due.due("undo()", x.undo(), true);
            Due.due("the hour", x.count(3), Math.max(0, done - 40));
        }
        SilkRise x = Due.with(TEXT);
        for (int i = 0; i < 100; i++) {
            if (i % 3 == 0) {
                x.hours(1);
            } else {
                x.patch(0, i % 3 == 1);
            }
            x.hours(0);
            x.move(0, 20);
        }
        Due.due("count(11)", x.count(11), 40);
        for (int i = 0; i < 40; i++) {
            Due.due("undo()", x.undo(), true);
        }
        Due.due("undo()", x.undo(), false);
        Due.due("20 times 3 are left", x.count(3), 20);
    }

    private static void undoneNotTheRest() {
        Due.says("15: the last thing done (tie, move, patch, hours): nothing else is one");
        SilkRise x = Due.with(TEXT);
        x.hours(3);
        x.feed(0, 0, 0, 0, 0);
        x.back(4);
        x.tell(1, 1, 1, 1, 1);
        x.tell(1, 1, 1, 1, 1);
        x.forget();
        x.tell(1, 1, 1, 1, 1);
        x.hold(1);
        x.tie(-1, 0);
        x.move(0, 7);
        x.patch(5, true);
        x.hours(73);
        x.restore(0);
        Due.due("count(11)", x.count(11), 1);
        Due.due("undo()", x.undo(), true);
        Due.due("the hour", x.count(3), 0);
        Due.due("the tape stays", x.count(10), 16);
        Due.due("what is TOLD stays", x.count(12), 1);
        Due.due("what is held stays", x.count(13), 1);
        Due.due("undo()", x.undo(), false);
        Due.due("restore(1)", x.restore(1), true);
        Due.due("the hour held", x.count(3), 3);
    }
}
