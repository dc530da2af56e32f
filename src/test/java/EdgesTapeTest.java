/** Each boundary of promises 1 to 5: a new object, the tape, reading it, the FAULT's place. */
public final class EdgesTapeTest {
    private static final int BLANKS = 0x20202020;

    public static void main(String[] args) {
        newObjectHasNothing();
        newObjectHasNoText();
        twentyBytesHighestFirst();
        feedUpTo2000();
        feedBeyond2000();
        backToNothing();
        backRefused();
        lastBytesGo();
        readEmpties();
        readOfNothing();
        textOf2000Bytes();
        placeOfTheLatest();
        aFaultChangesOnlyTheTape();
        inPlaceOfTheOneAhead();
        Due.end("EdgesTapeTest");
    }

    private static void newObjectHasNothing() {
        Due.says("1: No LOADS, no SILKS");
        SilkRise x = new SilkRise();
        Due.due("count(0)", x.count(0), 0);
        Due.due("count(1)", x.count(1), 0);
        Due.due("count(2)", x.count(2), 0);
        Due.due("load(0, 0)", x.load(0, 0), -1);
        Due.due("silk(0, 0)", x.silk(0, 0), -1);
        Due.due("pull(0)", x.pull(0), -100);
        Due.due("hook(0, 0)", x.hook(0, 0), -1);
        for (int what = 0; what < 4; what++) {
            Due.due("tells(0, 0, " + what + ")", x.tells(0, 0, what), -100);
            Due.due("flight(0, 0, 0, " + what + ")", x.flight(0, 0, 0, what), -1);
        }
        Due.due("tie(0, 0)", x.tie(0, 0), -1);
        Due.due("move(0, 0)", x.move(0, 0), false);
        Due.due("patch(0, true)", x.patch(0, true), false);
        Due.due("patch(0, false)", x.patch(0, false), false);
        Due.due("soon(0, 0, 0)", x.soon(0, 0, 0), -1);
        Due.due("patches(0, 0, 0)", x.patches(0, 0, 0), -1000);
        Due.due("lifts(0, 0)", x.lifts(0, 0), -1);
        Due.due("fill(-1)", x.fill(-1), 0);
        Due.due("fill(0)", x.fill(0), -100000);
        Due.due("fewest()", x.fewest(), 0);
        Due.due("waits(0, 0, 0)", x.waits(0, 0, 0), -100000);
        Due.due("waits(0, 0, 1)", x.waits(0, 0, 1), -100000);
        Due.due("then(0, 0, 0)", x.then(0, 0, 0), -1);
        Due.due("year(0, 0, 1)", x.year(0, 0, 1), -1);
        for (int at = -1; at <= 20; at++) {
            Due.due("near(" + at + ")", x.near(at), at < 0 || at > 19 ? -1 : -2);
        }
    }

    private static void newObjectHasNoText() {
        Due.says("1: a new object is as an empty text makes it");
        SilkRise x = new SilkRise();
        int[] ahead = Due.seen(x);
        int[] due = {0, 0, 0, 0, 0, 0, 0, 0, 0, 0, 0, 0, 0, 0, 0, 10, -1};
        for (int i = 0; i < due.length; i++) {
            Due.due("the answer " + i, ahead[i], due[i]);
        }
        Due.due("undo()", x.undo(), false);
        Due.due("restore(0)", x.restore(0), false);
        Due.due("forget()", x.forget(), 0);
        Due.due("earns(72)", x.earns(72), 0);
        Due.due("pulls(0, 0)", x.pulls(0, 0), 7);
        Due.due("pulls(0, 1)", x.pulls(0, 1), 127);
        Due.due("pulls(1, 0)", x.pulls(1, 0), -1);
        Due.due("sure(0)", x.sure(0), -100);
        // LIFT is size - weight, WIND 0 and the RIM 10: by 9 it is over behind 2 HOURS, not behind 1.
        x.tell(9, 1, 4, 1, 4);
        Due.due("pulls(1, 1)", x.pulls(1, 1), 8);
        x.tell(9, 1, 4, 2, 4);
        Due.due("pulls(2, 1)", x.pulls(2, 1), 0);
        x = new SilkRise();
        Due.due("read()", x.read(), 0);
        Due.asSeen("an empty text", x, ahead);
    }

    private static void twentyBytesHighestFirst() {
        Due.says("2: Twenty bytes, the highest of a first, come behind the tape");
        for (int at = 0; at < 20; at++) {
            for (int b : new int[] {'!', 0, 128, 255}) {
                int[] words = {BLANKS, BLANKS, BLANKS, BLANKS, BLANKS};
                int shift = 24 - at % 4 * 8;
                words[at / 4] = words[at / 4] & ~(255 << shift) | b << shift;
                SilkRise x = new SilkRise();
                Due.due("feed()", x.feed(words[0], words[1], words[2], words[3], words[4]), 20);
                Due.due("read() of byte " + b + " at " + at, x.read(), 1);
                Due.due("place() of byte " + b + " at " + at, x.place(), at);
                x.feed(BLANKS, BLANKS, BLANKS, BLANKS, BLANKS);
                Due.due("feed() behind twenty", x.feed(words[0], words[1], words[2], words[3], words[4]), 40);
                Due.due("read() behind twenty", x.read(), 1);
                Due.due("place() behind twenty", x.place(), 20 + at);
            }
        }
        SilkRise x = new SilkRise();
        // "load" " a 1" "9 9 " "99; " "rim7", then " 7; ".
        x.feed(0x6c6f6164, 0x20612031, 0x39203920, 0x39393b20, 0x72696d37);
        x.feed(0x373b2020, BLANKS, BLANKS, BLANKS, BLANKS);
        Due.due("read()", x.read(), 0);
        Due.due("X", x.load(0, 0), 19);
        Due.due("PRICE", x.load(0, 2), 99);
        Due.due("a TOKEN over the twenty", x.count(15), 77);
    }

    private static void feedUpTo2000() {
        Due.says("2: how many it has");
        SilkRise x = new SilkRise();
        for (int i = 1; i <= 100; i++) {
            Due.due("feed() " + i, x.feed(BLANKS, BLANKS, BLANKS, BLANKS, BLANKS), 20 * i);
        }
        Due.due("count(10)", x.count(10), 2000);
        Due.due("read() of 2,000 blanks", x.read(), 0);
        Due.due("feed() behind read()", x.feed(BLANKS, BLANKS, BLANKS, BLANKS, BLANKS), 20);
    }

    private static void feedBeyond2000() {
        Due.says("2: NONE, and nothing comes, if it would have more than 2,000");
        for (int less = 0; less <= 20; less++) {
            SilkRise x = new SilkRise();
            for (int i = 0; i < 100; i++) {
                x.feed(BLANKS, BLANKS, BLANKS, BLANKS, BLANKS);
            }
            x.back(less);
            Due.due("feed() at " + (2000 - less), x.feed(-1, -1, -1, -1, -1), less < 20 ? -1 : 2000);
            Due.due("count(10)", x.count(10), less < 20 ? 2000 - less : 2000);
            Due.due("read()", x.read(), less < 20 ? 0 : 1);
            Due.due("place()", x.place(), less < 20 ? -1 : 1980);
        }
    }

    private static void backToNothing() {
        Due.says("3: The last n bytes of the tape go: how many it has");
        SilkRise x = new SilkRise();
        Due.due("back(0) of an empty tape", x.back(0), 0);
        x.feed(BLANKS, BLANKS, BLANKS, BLANKS, BLANKS);
        Due.due("back(0)", x.back(0), 20);
        Due.due("back(1)", x.back(1), 19);
        Due.due("back(19), all", x.back(19), 0);
        Due.due("count(10)", x.count(10), 0);
        for (int i = 0; i < 100; i++) {
            x.feed(BLANKS, BLANKS, BLANKS, BLANKS, BLANKS);
        }
        Due.due("back(2000), all", x.back(2000), 0);
    }

    private static void backRefused() {
        Due.says("3: NONE, and nothing goes, if it has not so many, or n is below 0");
        SilkRise x = new SilkRise();
        Due.due("back(1) of an empty tape", x.back(1), -1);
        Due.due("back(-1) of an empty tape", x.back(-1), -1);
        Due.feed(x, "rim 5;");
        for (int n : new int[] {7, 20, 2000, 2001, Integer.MAX_VALUE, -1, -6, -2000, Integer.MIN_VALUE}) {
            Due.due("back(" + n + ")", x.back(n), -1);
            Due.due("count(10)", x.count(10), 6);
        }
        Due.due("read()", x.read(), 0);
        Due.due("the RIM", x.count(15), 5);
        Due.due("back(6) behind read()", x.back(6), -1);
    }

    private static void lastBytesGo() {
        Due.says("3: The last n bytes of the tape go");
        SilkRise x = new SilkRise();
        Due.feed(x, "rim 57;!!!!");
        Due.due("back(6)", x.back(6), 5);
        Due.feed(x, "3;");
        Due.due("count(10)", x.count(10), 7);
        Due.due("read()", x.read(), 0);
        Due.due("the RIM", x.count(15), 53);
    }

    private static void readEmpties() {
        Due.says("4: The tape, which is empty then, is read");
        SilkRise x = new SilkRise();
        Due.due("read()", Due.read(x, "rim 5;"), 0);
        Due.due("count(10)", x.count(10), 0);
        for (String fault : new String[] {"rim", "lift=(((((((1)))))));", "load a 1 1 1;load a 1 1 1;", "rim 0;"}) {
            Due.due("read() of " + fault, Due.read(x, fault) > 0, true);
            Due.due("count(10)", x.count(10), 0);
            Due.due("back(1)", x.back(1), -1);
            Due.due("the RIM", x.count(15), 5);
        }
        Due.due("read() of the empty tape", x.read(), 0);
        Due.due("the RIM", x.count(15), 10);
    }

    private static void readOfNothing() {
        Due.says("4: 0; an empty text is one too, in place of the one ahead");
        SilkRise x = Due.with("load a 1 1 1; silk s 1 1; hook h 1 1 1; rim 5; gusts 100; seed 3;");
        x.hours(3);
        Due.due("read()", x.read(), 0);
        int[] due = {0, 0, 0, 0, 0, 0, 0, 0, 0, 0, 0, 0, 0, 0, 0, 10};
        for (int what = 0; what < due.length; what++) {
            Due.due("count(" + what + ")", x.count(what), due[what]);
        }
    }

    private static void textOf2000Bytes() {
        Due.says("A TEXT has 2,000 bytes at most");
        String text = "\n".repeat(1994) + "rim 7;";
        SilkRise x = Due.with(text);
        Due.due("the RIM", x.count(15), 7);
        Due.fault("\n".repeat(1994) + "rim 70", 1, 2000);
        Due.fault("\n".repeat(1994) + "rim 0;", 5, 1998);
        Due.fault("\n".repeat(1999) + "!", 1, 1999);
        Due.fault("rim 7" + "\n".repeat(1995), 1, 2000);
        Due.fault("a".repeat(2000), 1, 0);
        Due.fault("rim " + "0".repeat(1996), 1, 4);
        Due.fault("lift=" + "(".repeat(1995), 2, 11);
        Due.fault(";".repeat(2000), 1, 0);
        Due.fault("\0".repeat(2000), 1, 0);
    }

    private static void placeOfTheLatest() {
        Due.says("5: The byte of the latest read()'s FAULT; NONE without");
        SilkRise x = new SilkRise();
        Due.due("place() ahead of all", x.place(), -1);
        Due.due("read()", Due.read(x, "!"), 1);
        Due.due("place() at the first byte", x.place(), 0);
        Due.due("read()", Due.read(x, "rim 5; rim 0;"), 5);
        Due.due("place()", x.place(), 11);
        Due.feed(x, "   !");
        x.hours(1);
        x.undo();
        x.hold(0);
        x.restore(0);
        x.back(1);
        Due.due("place() till the next read()", x.place(), 11);
        Due.due("read()", x.read(), 0);
        Due.due("place() without", x.place(), -1);
        Due.due("read()", Due.read(x, "rim"), 1);
        Due.due("place() at the text's end", x.place(), 3);
        Due.due("read()", x.read(), 0);
        Due.due("place() of the empty text", x.place(), -1);
    }

    private static void aFaultChangesOnlyTheTape() {
        Due.says("A text with a FAULT changes nothing but the tape");
        String other = "load k 9 9 9; load l 8 8 8; load m 7 7 7; silk n 9 3; hook o 9 5 9; hook p 8 4 8; rim 40; gusts 100; seed 9999;"
                + "lift = 1; wind = 2; ties = 3; pays = 4;";
        String[] faults = {"rim 5", "load k", "load k 1 1 1;", "rim 0;", "lift=(((((((1)))))));"};
        int[] kinds = {1, 1, 3, 5, 2};
        for (int i = 0; i < faults.length; i++) {
            SilkRise x = Due.with("load a 3 2 7; load b 4 2 8; silk s 7 1; silk t 5 0; hook h 4 5 1; rim 12;"
                    + "lift = size - weight + up - 1 + stored; wind = 1; ties = weight + 3; pays = price + 2;");
            x.tie(0, 0);
            x.hours(2);
            x.tie(1, 1);
            x.hours(1);
            x.hold(1);
            x.tell(5, 2, 3, 1, 4);
            int[] laws = {x.tells(1, 1, 0), x.tells(1, 1, 1), x.tells(1, 1, 2), x.tells(1, 1, 3)};
            Due.feed(x, other + faults[i]);
            int[] ahead = Due.seen(x);
            Due.due("read() .. " + faults[i], x.read(), kinds[i]);
            // The tape and the place are all that is not as it was.
            ahead[10] = 0;
            ahead[ahead.length - 1] = x.place();
            Due.asSeen("a FAULT", x, ahead);
            for (int law = 0; law < 4; law++) {
                Due.due("tells(1, 1, " + law + ")", x.tells(1, 1, law), laws[law]);
            }
            Due.due("earns(5)", x.earns(5), 10);
            Due.due("what is TOLD", x.pulls(1, 1), 8);
            Due.due("what can be undone", x.undo() && x.undo() && x.undo() && x.undo() && !x.undo(), true);
            Due.due("what is held", x.restore(1), true);
            Due.due("the hour", x.count(3), 3);
        }
    }

    private static void inPlaceOfTheOneAhead() {
        Due.says("else it is in place of the one ahead");
        String text = "load a 3 2 7; silk s 7 1; hook h 4 5 1; rim 5;";
        SilkRise x = Due.with(text);
        int[] fresh = Due.seen(x);
        x.tie(0, 0);
        x.hours(30);
        x.patch(0, false);
        x.move(0, 0);
        for (int slot = 0; slot < 3; slot++) {
            x.hold(slot);
        }
        x.tell(1, 1, 1, 1, 1);
        Due.due("earned", x.count(8), 7);
        Due.due("paid", x.count(9), 2);
        Due.due("STORED", x.count(6), 1);
        Due.due("read()", Due.read(x, text), 0);
        Due.asSeen("the same text", x, fresh);
        Due.says("nothing can be undone");
        Due.due("undo()", x.undo(), false);
        Due.says("nothing is TOLD");
        Due.due("pulls(1, 0)", x.pulls(1, 0), -1);
        Due.due("forget()", x.forget(), 0);
        Due.says("SLOTS hold nothing");
        for (int slot = 0; slot < 3; slot++) {
            Due.due("restore(" + slot + ")", x.restore(slot), false);
        }
        Due.says("all LOADS and SILKS at the foot");
        x.tie(0, 0);
        Due.due("read() with one in the air", Due.read(x, text), 0);
        Due.asSeen("the same text", x, fresh);
    }
}
