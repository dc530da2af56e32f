/** Promises 1 to 5: a new object, the tape, what FAULTS a text has; and what a text without one begins. */
public final class TextTest {
    public static void main(String[] args) {
        newObject();
        tape();
        tokens();
        grammar();
        room();
        twiceAndWrong();
        onlyTheTape();
        inPlaceOfTheOneAhead();
        Due.end("TextTest");
    }

    private static void newObject() {
        SilkRise x = new SilkRise();
        int[] due = {0, 0, 0, 0, 0, 0, 0, 0, 0, 0, 0, 0, 0, 0, 0, 10};
        for (int what = 0; what < due.length; what++) {
            Due.due("new count(" + what + ")", x.count(what), due[what]);
        }
        Due.due("new place()", x.place(), -1);
        Due.due("new undo()", x.undo(), false);
        Due.due("new restore(0)", x.restore(0), false);
        Due.due("NONE", SilkRise.NONE, -1);
    }

    private static void tape() {
        SilkRise x = new SilkRise();
        Due.due("back(1) of nothing", x.back(1), -1);
        Due.due("back(0) of nothing", x.back(0), 0);
        for (int i = 1; i <= 100; i++) {
            Due.due("feed " + i, x.feed(0, 0, 0, 0, 0), 20 * i);
        }
        Due.due("feed at 2000", x.feed(0, 0, 0, 0, 0), -1);
        Due.due("count(10)", x.count(10), 2000);
        Due.due("back(-1)", x.back(-1), -1);
        Due.due("back(2001)", x.back(2001), -1);
        Due.due("back(MIN)", x.back(Integer.MIN_VALUE), -1);
        Due.due("back(19)", x.back(19), 1981);
        Due.due("feed at 1981", x.feed(0, 0, 0, 0, 0), -1);
        Due.due("back(1)", x.back(1), 1980);
        Due.due("feed at 1980", x.feed(0, 0, 0, 0, 0), 2000);
        Due.due("back(2000)", x.back(2000), 0);
        // "rim " "42; " and what goes away again: the highest byte of a comes first.
        Due.due("feed rim", x.feed(0x72696d20, 0x34323b20, 0x20202020, 0x20202020, 0x414243fe), 20);
        Due.due("back(4)", x.back(4), 16);
        Due.due("read rim", x.read(), 0);
        Due.due("the rim", x.count(15), 42);
        Due.due("the tape is empty", x.count(10), 0);
    }

    private static void tokens() {
        Due.fault("", 0, -1);
        Due.fault(" \t\r\n ", 0, -1);
        Due.fault("load abcdefgh 1 2 3;", 0, -1);
        Due.fault("load abcdefghi 1 2 3;", 1, 5);
        Due.fault("load a0001 1 1;", 0, -1);
        Due.fault("load a 00001 1 1;", 1, 7);
        Due.fault("load\ta\r1\n1 1\t;", 0, -1);
        Due.fault("loada 1 1 1;", 1, 0);
        Due.fault("load a 1 1 1;\f", 1, 13);
        Due.fault("load a 1 1 1;\0", 1, 13);
        Due.fault("Load a 1 1 1;", 1, 0);
        Due.fault("load \u00e9 1 1 1;", 1, 5);
        Due.fault("load a_ 1 1 1;", 1, 6);
        Due.fault("lift = 1 . 2;", 1, 9);
        Due.fault("lift = hours;", 1, 7);
        Due.fault("lift=1+(2*3)/hour-size;", 0, -1);
        for (String word : ("load silk hook lift wind ties pays rim gusts seed if then else hour day size weight high across price"
                + " up stored").split(" ")) {
            Due.fault("load " + word + " 1 1 1;", 1, 5);
            Due.fault("load " + word + "x 1 1 1;", 0, -1);
        }
        for (String var : "hour day size weight high across price up stored".split(" ")) {
            Due.fault("pays = " + var + ";", 0, -1);
        }
    }

    private static void grammar() {
        Due.fault("load", 1, 4);
        Due.fault("load  ", 1, 6);
        Due.fault("load a 1 1 1", 1, 12);
        Due.fault("load a 1 1;", 1, 10);
        Due.fault("load a 1 1 1 1;", 1, 13);
        Due.fault("load a 1 1 -1;", 1, 11);
        Due.fault("silk s 1 -0;", 0, -1);
        Due.fault("silk s 1 - 3 ;", 0, -1);
        Due.fault("silk s 1 --1;", 1, 10);
        Due.fault("silk s -1 1;", 1, 7);
        Due.fault("hook h 1 1;", 1, 10);
        Due.fault("rim;", 1, 3);
        Due.fault("gusts 1 2;", 1, 8);
        Due.fault("seed -1;", 1, 5);
        Due.fault(";", 1, 0);
        Due.fault("rim 1;;", 1, 6);
        Due.fault("lift 1;", 1, 5);
        Due.fault("lift = ;", 1, 7);
        Due.fault("lift = -1;", 1, 7);
        Due.fault("lift = 1 2;", 1, 9);
        Due.fault("lift = 1 +;", 1, 10);
        Due.fault("lift = 1 < 2;", 1, 9);
        Due.fault("lift = (1;", 1, 9);
        Due.fault("lift = 1);", 1, 8);
        Due.fault("lift = ();", 1, 8);
        Due.fault("lift = if 1 < 2 then 3;", 1, 22);
        Due.fault("lift = if 1 then 2 else 3;", 1, 12);
        Due.fault("lift = if 1 < 2 < 3 then 2 else 3;", 1, 16);
        Due.fault("lift = if (1 < 2) then 2 else 3;", 1, 13);
        Due.fault("lift = (if 1 < 2 then 1 else 2);", 1, 8);
        Due.fault("lift = if 1 < 2 then if 1 < 2 then 1 else 2 else 3;", 1, 21);
        Due.fault("lift = if 1 < 2 then 3 else if 2 < 3 then 4 else 5", 1, 50);
        Due.fault("lift = if 1 < 2 then 3 else if 2 < 3 then 4 else 5;", 0, -1);
        Due.fault("rim = 1;", 1, 4);
    }

    private static String times(String part, int n) {
        return part.repeat(n);
    }

    private static String named(String sort, String numbers, int n) {
        StringBuilder text = new StringBuilder();
        for (int i = 0; i < n; i++) {
            text.append(sort).append(' ').append((char) ('a' + i)).append(numbers).append(';');
        }
        return text.toString();
    }

    private static void room() {
        String loads = named("load", " 1 1 1", 7);
        Due.fault(loads, 0, -1);
        Due.fault(loads + " load", 2, loads.length() + 1);
        String silks = named("silk", " 1 1", 5);
        Due.fault(silks, 0, -1);
        Due.fault(silks + "silk h 1 1;", 2, silks.length());
        String hooks = named("hook", " 1 1 1", 5);
        Due.fault(hooks, 0, -1);
        Due.fault(hooks + "hook h 1 1 1;", 2, hooks.length());
        String ifs = "lift = " + times("if 1 < 2 then 3 else ", 4);
        Due.fault(ifs + "1;", 0, -1);
        Due.fault(ifs + "1;" + ifs + "1;", 0, -1);
        Due.fault(ifs + "if 1", 2, ifs.length());
        Due.fault("lift=" + times("(", 6) + "1" + times(")", 6) + ";", 0, -1);
        String six = times("(", 6) + "1" + times(")", 6);
        Due.fault("lift=if " + six + "<" + six + " then " + six + " else " + six + "*" + six + "-" + six + ";", 0, -1);
        Due.fault("lift=if (" + six + "<1 then 1 else 1;", 2, 14);
        Due.fault("lift=if 1<(" + six + " then 1 else 1;", 2, 16);
        Due.fault("lift=if 1<2 then (" + six + " else 1;", 2, 23);
        Due.fault("lift=if 1<2 then 1 else (" + six + ";", 2, 30);
        Due.fault("lift=" + times("(", 7) + "1" + times(")", 7) + ";", 2, 11);
        Due.fault("lift=" + times("(1)+", 30) + "1;", 0, -1);
        Due.fault("lift=(((((1)+((1)))*(1))))-((((((1))))));", 0, -1);
        Due.fault("lift=(((((1)+(((1))))*(1))));", 2, 15);
        String full = times("rim 5;", 132) + "lift=1;";
        Due.fault(full, 0, -1);
        Due.fault(full + "  rim", 2, full.length() + 2);
        Due.fault(full + "  \n", 0, -1);
        Due.fault(full + "  )", 1, full.length() + 2);
        Due.fault(full + "  abcdefghi", 1, full.length() + 2);
        Due.fault(times("rim 5;", 133) + "rim 5;", 2, 133 * 6 + 4);
        Due.fault(times("rim 5;", 133) + "rim", 1, 133 * 6 + 3);
        Due.fault(times("rim 5;", 133) + "rim ;", 1, 133 * 6 + 4);
        Due.fault("lift=" + times("1+", 198) + "1;", 0, -1);
        Due.fault("lift=" + times("1+", 199) + "1;", 2, 5 + 398 + 1 - 1);
    }

    private static void twiceAndWrong() {
        Due.fault("load a 1 1 1;silk a 1 1;", 3, 18);
        Due.fault("load a 1 1 1;load a 1 1 1;", 3, 18);
        Due.fault("silk b 1 1;hook b 1 1 1;", 3, 16);
        Due.fault("hook b 1 1 1;load bb 1 1 1;", 0, -1);
        Due.fault("load a 1 1 1;load a 1 1 1", 1, 25);
        String most = named("load", " 1 1 1", 7) + named("silk x", " 1 1", 5).replace("x ", "x") + named("hook y", " 1 1 1", 4).replace("y ", "y");
        Due.fault(most + "hook z 1 1 1;", 0, -1);
        Due.fault(most + "hook yd 1 1 1;", 3, most.length() + 5);
        Due.fault(most + "hook ya 1 1 1;", 3, most.length() + 5);
        Due.fault(most + "hook a 1 1 1;", 3, most.length() + 5);
        Due.fault("load a 20 1 1;load a 1 1 1;", 5, 7);
        Due.fault("load a 1 1 1;load a 20 1 1;", 3, 18);
        Due.fault("load a 20 1 1; load", 1, 19);
        Due.fault("load a 19 9 99;", 0, -1);
        Due.fault("load a 0 1 0;", 0, -1);
        Due.fault("load a 1 0 1;", 5, 9);
        Due.fault("load a 1 10 1;", 5, 9);
        Due.fault("load a 1 1 100;", 5, 11);
        Due.fault("silk a 0 1;", 5, 7);
        Due.fault("silk a 10 1;", 5, 7);
        Due.fault("silk a 9 3;silk b 1 -3;", 0, -1);
        Due.fault("silk a 9 4;", 5, 9);
        Due.fault("silk a 9 - 4;", 5, 11);
        Due.fault("hook a 0 0 1;hook b 19 5 9;", 0, -1);
        Due.fault("hook a 20 0 1;", 5, 7);
        Due.fault("hook a 0 6 1;", 5, 9);
        Due.fault("hook a 0 0 0;", 5, 11);
        Due.fault("hook a 0 0 10;", 5, 11);
        Due.fault("rim 0;", 5, 4);
        Due.fault("rim 100;rim 5;", 5, 4);
        Due.fault("rim 1;rim 99;", 0, -1);
        Due.fault("gusts 0;gusts 100;", 0, -1);
        Due.fault("gusts 101;", 5, 6);
        Due.fault("seed 0;seed 9999;", 0, -1);
    }

    private static void onlyTheTape() {
        SilkRise x = Due.with("load a 3 2 7; silk s 5 0; rim 20; seed 5;");
        x.tie(0, 0);
        x.hours(2);
        x.hold(1);
        x.tell(5, 2, 3, 1, 3);
        int[] ahead = new int[16];
        for (int what = 0; what < 16; what++) {
            ahead[what] = x.count(what);
        }
        Due.due("a FAULT", Due.read(x, "load b 1 1 1; rim 5; rim 0;"), 5);
        Due.due("its place", x.place(), 25);
        for (int what = 0; what < 16; what++) {
            Due.due("behind a FAULT count(" + what + ")", x.count(what), ahead[what]);
        }
        Due.due("count(11)", x.count(11), 2);
        Due.due("count(12)", x.count(12), 1);
        Due.due("count(13)", x.count(13), 1);
        Due.due("X", x.load(0, 0), 3);
        Due.due("high", x.load(0, 4), 6);
        Due.due("LIFT still", x.tells(0, 0, 0), 3);
        Due.due("undo()", x.undo(), true);
        Due.due("place() stays", x.place(), 25);
        Due.due("read() of nothing", x.read(), 0);
        Due.due("place() is gone", x.place(), -1);
    }

    private static void inPlaceOfTheOneAhead() {
        SilkRise x = Due.with("load a 3 2 7; silk s 5 2; hook h 3 5 1; rim 3; gusts 100; seed 5; lift = 7; ties = 5; pays = 6; wind = 2;");
        x.tie(0, 0);
        x.hours(1);
        x.patch(0, true);
        x.move(0, 9);
        x.hold(0);
        x.tell(1, 1, 1, 1, 1);
        Due.due("earned", x.count(8), 6);
        Due.due("paid", x.count(9), 5);
        Due.due("read()", Due.read(x, "hook g 4 1 2; load b 8 3 9; load c 9 1 1; silk t 6 -1;"), 0);
        int[] due = {2, 1, 1, 0, 3, 0, 0, 0, 0, 0, 0, 0, 0, 0, 0, 10};
        for (int what = 0; what < due.length; what++) {
            Due.due("behind a text count(" + what + ")", x.count(what), due[what]);
        }
        Due.due("undo()", x.undo(), false);
        Due.due("restore(0)", x.restore(0), false);
        Due.due("PULL", x.pull(0), -1);
        Due.due("let go", x.silk(0, 2), 0);
        Due.due("hook X", x.hook(0, 0), 4);
        Due.due("hooked", x.hook(0, 3), 0);
        Due.due("LIFT is size - weight", x.tells(0, 0, 0), 3);
        Due.due("WIND is 0", x.tells(0, 0, 1), 0);
        Due.due("TIES is weight", x.tells(0, 0, 2), 3);
        Due.due("PAYS is price", x.tells(0, 0, 3), 9);
        Due.due("the last one", Due.read(x, "load a 1 1 1;rim 4;rim 6;pays=3;pays=4;seed 1;seed 2;gusts 3;gusts 100;"), 0);
        Due.due("the last RIM", x.count(15), 6);
        Due.due("the last PAYS", x.tells(0, 0, 3), 4);
        Due.due("the last GUSTS", x.count(14), 1);
    }
}
