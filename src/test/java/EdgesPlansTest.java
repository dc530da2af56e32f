/** Each boundary of promises 21 to 26: FILL, FEWEST, WAIT, IN n HOURS, YEAR. */
public final class EdgesPlansTest {
    private static final int[] OTHERS = {-2, -3, 3, 5, 7, 100, Integer.MIN_VALUE, Integer.MAX_VALUE};

    public static void main(String[] args) {
        fillNothing();
        fillNoSuchOne();
        fillAtTheFootAlone();
        fillHookedAlone();
        fillTiesPaid();
        fillAnotherSilk();
        fillAlike();
        fillMost();
        fewestNone();
        fewestOfAlike();
        fewestAsCanBe();
        fewestWhatWouldBe();
        fewestAll();
        waitsFewestOfAlike();
        waitsUpTo24();
        waitsNotHooked();
        waitsTiesAsOfThen();
        waitsNoSuchOnes();
        thenAsNow();
        thenUpTo72();
        thenNoSuchOnes();
        earnsBetween();
        earnsNoSuchN();
        inHoursByGusts();
        yearBySeeds();
        yearNoSuchOnes();
        Due.end("EdgesPlansTest");
    }

    private static void fills(String why, SilkRise x, int most, int... silks) {
        Due.due(why + ": fill(-1)", x.fill(-1), most);
        for (int load = 0; load < silks.length; load++) {
            Due.due(why + ": fill(" + load + ")", x.fill(load), silks[load]);
        }
        Due.due(why + ": how many", x.count(0), silks.length);
    }

    private static void fillNothing() {
        Due.says("21: FILL of nothing");
        fills("a new object", new SilkRise(), 0);
        fills("no LOADS", Due.with("silk s 9 0; hook h 5 5 9;"), 0);
        fills("no SILKS", Due.with("load a 5 1 9; hook h 5 5 9;"), 0, -2);
        fills("no HOOKS", Due.with("load a 5 1 9; silk s 9 0;"), 0, -2);
    }

    private static void fillNoSuchOne() {
        Due.says("21: -100000: no such one");
        SilkRise x = Due.with("load a 5 1 9; load b 5 1 9; load c 5 1 9; silk s 9 0; hook h 5 5 9; rim 8;");
        for (int i : OTHERS) {
            Due.due("fill(" + i + ")", x.fill(i), -100000);
        }
        Due.due("fill(-1)", x.fill(-1), 8);
        Due.due("fill(0) of a new object", new SilkRise().fill(0), -100000);
        Due.due("fill(-2) of a new object", new SilkRise().fill(-2), -100000);
    }

    private static void fillAtTheFootAlone() {
        Due.says("21: for all LOADS at the foot another SILK there; -2: none, it is not at the foot");
        SilkRise x = Due.with("load a 5 1 9; load b 5 1 9; load c 5 1 9; silk s 9 0; silk t 2 0; hook h 5 5 9; rim 8;");
        x.tie(0, 1);
        fills("one LOAD in the air, one SILK", x, 8, -2, 0, -2);
        x.tie(1, 0);
        fills("no SILK at the foot", x, 0, -2, -2, -2);
        x.hours(1);
        fills("one STORED, one in the air", x, 8, -2, -2, 0);
        x.hours(7);
        fills("two STORED", x, 8, -2, -2, 0);
        x.tie(2, 0);
        x.hours(1);
        fills("three STORED", x, 0, -2, -2, -2);
    }

    private static void fillHookedAlone() {
        Due.says("21: another SILK there by which it is hooked");
        // By TIES 0 one that is not hooked would be alike to none: it has none.
        fills("MISSED", Due.with("load a 9 1 9; silk s 9 0; hook h 5 3 9; rim 8; ties = 0;"), 0, -2);
        fills("LANDED", Due.with("load a 5 9 9; silk s 9 0; hook h 5 3 9; rim 8; ties = 0;"), 0, -2);
        fills("not in 48", Due.with("load a 5 1 9; silk s 2 0; hook h 5 3 9; rim 49; ties = 0;"), 0, -2);
        fills("in 48", Due.with("load a 5 1 9; silk s 2 0; hook h 5 3 9; rim 48; ties = 0;"), 9, 0);
        fills("hooked for nothing", Due.with("load a 5 1 0; silk s 9 0; hook h 5 3 9; rim 8; ties = 0;"), 0, 0);
        fills("the one MISSED, the other hooked", Due.with("load a 9 1 9; load b 5 1 9; silk s 9 0; silk t 9 0; hook h 5 3 9; rim 8; ties = 0;"), 9, -2, 0);
        fills("by one SILK alone", Due.with("load a 9 1 9; silk s 9 0; silk t 9 -1; hook h 5 3 9; rim 8; ties = 0;"), 9, 1);
        // Each FLIGHT alone: HANDS of 1 are enough for all.
        fills("each alone", Due.with("load a 5 1 9; load b 5 1 9; load c 5 1 9; silk s 9 0; silk t 9 0; silk u 9 0; hook h 5 3 1; rim 8;"), 24, 0, 1, 2);
    }

    private static void fillTiesPaid() {
        Due.says("21: most is earned, TIES (as of now) paid");
        for (int ties = 7; ties <= 11; ties++) {
            SilkRise x = Due.with("load a 5 1 9; silk s 9 0; hook h 5 3 9; rim 8; ties = " + ties + ";");
            fills("TIES " + ties, x, Math.max(0, 9 - ties), ties <= 9 ? 0 : -2);
        }
        SilkRise x = Due.with("load a 5 1 50; load b 5 1 50; silk s 9 0; silk t 9 0; silk u 9 0; hook h 5 3 9; rim 24; ties = 10 * up + hour + stored * 20;");
        fills("as of now", x, 100, 0, 1);
        x.hours(3);
        fills("as of hour 3", x, 94, 0, 1);
        x.tie(0, 2);
        fills("one in the air", x, 37, -2, 0);
        x.hours(3);
        fills("one STORED", x, 24, -2, 0);
        x = Due.with("load a 5 1 9; load b 5 2 9; silk s 9 0; silk t 9 0; hook h 5 3 9; rim 7; ties = size - weight - 6 + 7 * (weight / 2);");
        fills("by WEIGHT", x, 9 - 2 + 9 - 8, 0, 1);
    }

    private static void fillAnotherSilk() {
        Due.says("21: another SILK for each");
        fills("one SILK, the dearer LOAD", Due.with("load a 5 1 9; load b 5 1 10; silk s 9 0; hook h 5 3 9; rim 8;"), 9, -2, 0);
        fills("the one that both need", Due.with("load a 5 1 9; load b 5 5 9; silk s 9 0; silk t 3 0; hook h 5 3 9; rim 8; ties = 0;"), 18, 1, 0);
        fills("seven LOADS, five SILKS", Due.with("load a 5 1 1; load b 5 1 2; load c 5 1 3; load d 5 1 4; load e 5 1 5; load f 5 1 6; load g 5 1 7;"
                + "silk s 9 0; silk t 9 0; silk u 9 0; silk v 9 0; silk w 9 0; hook h 5 3 9; rim 8; ties = 0;"), 25, -2, -2, 0, 1, 2, 3, 4);
        fills("one LOAD, five SILKS", Due.with("load a 5 1 9; silk s 9 0; silk t 8 0; silk u 5 0; silk v 7 0; silk w 5 0; hook h 5 3 9; rim 4; ties = size;"),
                4, 2);
        // To give up one to have the other: a alone brings 9 by s, b 8 by s, a 5 by t.
        fills("the best together", Due.with("load a 5 1 9; load b 5 1 8; silk s 9 0; silk t 9 3; hook h 5 0 9; hook g 8 0 9; rim 8; ties = 0;"
                + "pays = if price < 9 then 8 else 9;"), 17, 0, 1);
    }

    private static void fillAlike() {
        Due.says("21: of alike ones the first by the first LOAD's SILK (none last), then the next one's");
        String silks = "silk s 9 0; silk t 9 0; silk u 9 0; hook h 5 3 9; rim 8;";
        fills("all alike", Due.with("load a 5 1 9; load b 5 1 9; load c 5 1 9;" + silks), 24, 0, 1, 2);
        fills("more LOADS than SILKS", Due.with("load a 5 1 9; load b 5 1 9; load c 5 1 9; load d 5 1 9;" + silks), 24, 0, 1, 2, -2);
        fills("more SILKS than LOADS", Due.with("load a 5 1 9; load b 5 1 9;" + silks), 16, 0, 1);
        // As much is paid as is earned: a SILK is ahead of none.
        fills("nothing is gained", Due.with("load a 5 1 9; load b 5 1 9; load c 5 1 9; load d 5 1 9;" + silks + "ties = 9;"), 0, 0, 1, 2, -2);
        // A first LOAD that gains nothing leaves its SILK to one that does.
        fills("the second one gains", Due.with("load a 5 1 9; load b 5 1 10; silk s 9 0; hook h 5 3 9; rim 8; ties = 9;"), 1, -2, 0);
        fills("the second one gains, by the last SILK", Due.with("load a 5 1 9; load b 5 1 10; silk s 9 0; silk t 9 0; hook h 5 3 9; rim 8; ties = 9;"), 1, 0, 1);
        // The first SILK for the first LOAD, though the second could have it as well.
        fills("0 and 2 or 1 and 0 or 2 and 0",
                Due.with("load a 5 1 9; load b 6 1 9; silk s 9 0; silk t 9 1; silk u 9 0; hook h 5 1 9; rim 8; ties = 0;"), 18, 0, 2);
    }

    private static void fillMost() {
        Due.says("21: so that most is earned");
        fills("the most that can be", Due.with("load a 5 1 99; load b 5 1 99; load c 5 1 99; load d 5 1 99; load e 5 1 99; load f 5 1 99; load g 5 1 99;"
                + "silk s 9 0; silk t 9 0; silk u 9 0; silk v 9 0; silk w 9 0; hook h 5 3 9; rim 8; ties = 0;"), 495, 0, 1, 2, 3, 4, -2, -2);
        fills("less than nothing is not taken", Due.with("load a 5 1 0; load b 5 1 99; silk s 9 0; silk t 9 0; hook h 5 3 9; rim 8; ties = 99;"), 0, -2, 0);
        // What PAYS tells as the last hour began.
        fills("PAYS later", Due.with("load a 5 1 9; silk s 9 0; hook h 5 3 9; rim 24; pays = price + hour * 10 + up;"), 9 + 20 + 1 - 1, 0);
    }

    private static void fewestNone() {
        Due.says("22: FEWEST: none need be");
        Due.due("a new object", new SilkRise().fewest(), 0);
        Due.due("no LOADS", Due.with("silk s 9 0; hook h 5 5 9;").fewest(), 0);
        Due.due("no SILKS", Due.with("load a 5 1 1; hook h 5 5 9;").fewest(), 0);
        Due.due("no HOOKS", Due.with("load a 5 1 1; silk s 9 0;").fewest(), 0);
        Due.due("MISSED", Due.with("load a 5 1 1; silk s 9 0; hook h 7 1 9; rim 8;").fewest(), 0);
        Due.due("LANDED", Due.with("load a 5 9 1; silk s 9 0; hook h 5 1 9; rim 8;").fewest(), 0);
        Due.due("not in 48", Due.with("load a 5 1 1; silk s 2 0; hook h 5 1 9; rim 49;").fewest(), 0);
        Due.due("in 48", Due.with("load a 5 1 1; silk s 2 0; hook h 5 1 9; rim 48;").fewest(), 1);
    }

    private static void fewestOfAlike() {
        Due.says("22: of alike ones the least bits");
        String load = "load a 5 1 1; silk s 9 0; rim 8;";
        SilkRise x = Due.with(load + "hook ha 5 5 9; hook hb 5 5 9; hook hc 5 5 9; hook hd 5 5 9; hook he 5 5 9;");
        for (int hook = 0; hook < 5; hook++) {
            Due.due("the first of those left", x.fewest(), 1 << hook);
            x.move(hook, 19);
        }
        Due.due("none is left", x.fewest(), 0);
        // It need not be the nearest one.
        Due.due("a farther one", Due.with(load + "hook h 9 4 9; hook g 5 0 9;").fewest(), 1);
        // {0, 3} and {1, 2} do for two LOADS: 9 and 6.
        Due.due("the least bits, not the first HOOK", Due.with("load a 2 1 1; load b 6 1 1; load c 10 1 1; load d 14 1 1; silk s 9 0; rim 8;"
                + "hook h 2 4 9; hook g 4 2 9; hook f 12 2 9; hook e 12 3 9;").fewest(), 5);
        Due.due("{1, 2} ahead of {0, 3}", Due.with("load a 2 1 1; load b 6 1 1; load c 10 1 1; silk s 9 0; rim 8;"
                + "hook h 2 0 9; hook g 4 2 9; hook f 10 0 9; hook e 8 2 9;").fewest(), 6);
    }

    private static void fewestAsCanBe() {
        Due.says("22: with as few as can be");
        // Three that reach one LOAD each, and the fourth for all: 8, though 7 has less bits.
        Due.due("one for all", Due.with("load a 4 1 1; load b 6 1 1; load c 8 1 1; silk s 9 0; rim 8; hook h 4 0 1; hook g 6 0 1; hook f 8 0 1; hook e 6 2 1;")
                .fewest(), 8);
        Due.due("two are enough", Due.with("load a 4 1 1; load b 6 1 1; load c 8 1 1; silk s 9 0; rim 8; hook h 4 0 1; hook g 6 0 1; hook f 8 0 1; hook e 7 1 1;")
                .fewest(), 9);
        // HANDS are of no weight: each one is alone.
        Due.due("HANDS of 1", Due.with("load a 5 1 1; load b 5 1 1; load c 5 1 1; silk s 9 0; rim 8; hook h 5 0 1; hook g 5 0 1;").fewest(), 1);
    }

    private static void fewestWhatWouldBe() {
        Due.says("22: each LOAD at the foot that would be hooked, begun now by a SILK there, alone");
        SilkRise x = Due.with("load a 5 1 1; load b 9 1 1; silk s 9 0; silk t 9 3; rim 8; hook h 5 0 1; hook g 9 0 1; hook f 12 0 1;");
        Due.due("a by s, b by s", x.fewest(), 3);
        x.tie(0, 0);
        // b by t alone now: at 12.
        Due.due("b by t", x.fewest(), 4);
        x.hours(1);
        // a is STORED; b by s to 9 or by t to 12: one is enough.
        Due.due("b by s or by t", x.fewest(), 2);
        x.tie(1, 0);
        x.hours(1);
        Due.due("none at the foot", x.fewest(), 0);
        x = Due.with("load a 5 1 1; silk s 9 0; rim 8; hook h 5 0 1; hook g 6 0 1; wind = if hour < 1 then 0 else if hour < 2 then 1 else 2;");
        Due.due("begun now", x.fewest(), 1);
        x.hours(1);
        Due.due("begun an hour later", x.fewest(), 2);
        x.hours(1);
        Due.due("begun two hours later", x.fewest(), 0);
    }

    private static void fewestAll() {
        Due.says("22: FEWEST (bits): all five");
        String loads = "load a 1 1 1; load b 4 1 1; load c 8 1 1; load d 12 1 1; load e 18 1 1; silk s 9 0; rim 8;";
        Due.due("all five", Due.with(loads + "hook ha 18 0 1; hook hb 12 0 1; hook hc 8 0 1; hook hd 4 0 1; hook he 1 0 1;").fewest(), 31);
        Due.due("the last four", Due.with(loads + "hook ha 17 0 1; hook hb 12 0 1; hook hc 8 0 1; hook hd 4 0 1; hook he 1 0 1;").fewest(), 30);
        Due.due("the first four", Due.with(loads + "hook ha 18 0 1; hook hb 12 0 1; hook hc 8 0 1; hook hd 4 0 1; hook he 2 0 1;").fewest(), 15);
        Due.due("seven LOADS, one HOOK", Due.with("load a 1 1 1; load b 2 1 1; load c 3 1 1; load d 4 1 1; load e 5 1 1; load f 6 1 1; load g 11 1 1;"
                + "silk s 9 0; rim 8; hook ha 6 5 1;").fewest(), 1);
    }

    private static void waits(String why, SilkRise x, int w, int much) {
        Due.due(why + ": waits(0, 0, 0)", x.waits(0, 0, 0), w);
        Due.due(why + ": waits(0, 0, 1)", x.waits(0, 0, 1), much);
    }

    private static void waitsFewestOfAlike() {
        Due.says("23: of alike ones the fewest");
        String text = "load a 5 1 20; silk s 9 0; hook h 5 5 1; rim 8; ties = 0; pays = ";
        waits("as much by each w", Due.with(text + "20 + hour + day * 24;"), 0, 20);
        waits("one less by each w", Due.with(text + "20;"), 0, 20);
        waits("one more by each w", Due.with(text + "20 + 2 * hour;"), 23, 20 + 23);
        for (int at = 1; at <= 24; at++) {
            String hour = "if hour + day * 24 < " + at + " then 20 else 20 + ";
            waits("alike to w " + at, Due.with(text + hour + at + ";"), 0, 20);
            waits("better by 1 by w " + at, Due.with(text + hour + (at + 1) + ";"), at, 21);
            waits("worse by 1 by w " + at, Due.with(text + hour + (at - 1) + ";"), 0, 20);
        }
    }

    private static void waitsUpTo24() {
        Due.says("23: the w (0 .. 24)");
        String text = "load a 5 1 20; silk s 9 0; hook h 5 5 1; rim 8; ties = 0; pays = if hour + day * 24 < ";
        waits("w 23", Due.with(text + "23 then 1 else 90;"), 23, 67);
        waits("w 24", Due.with(text + "24 then 1 else 90;"), 24, 66);
        waits("w 25 is none", Due.with(text + "25 then 1 else 90;"), 0, 1);
        SilkRise x = Due.with(text + "25 then 1 else 90;");
        x.hours(1);
        waits("an hour on", x, 24, 66);
        // The HOUR in which it is hooked is what counts for PAYS.
        waits("two hours up", Due.with("load a 5 1 20; silk s 9 0; hook h 5 5 1; rim 16; ties = 0; pays = if hour + day * 24 < 25 then 1 else 90;"), 24, 66);
        waits("three hours up", Due.with("load a 5 1 20; silk s 9 0; hook h 5 5 1; rim 24; ties = 0; pays = if hour + day * 24 < 25 then 1 else 90;"), 23, 67);
    }

    private static void waitsNotHooked() {
        Due.says("23: what is earned (0 if it is not hooked); how much (may be below 0)");
        waits("MISSED", Due.with("load a 5 1 20; silk s 9 0; hook h 9 3 1; rim 8;"), 0, -1);
        waits("LANDED", Due.with("load a 5 9 20; silk s 9 0; hook h 5 3 1; rim 8;"), 0, -9);
        waits("not in 48", Due.with("load a 5 1 20; silk s 2 0; hook h 5 3 1; rim 49;"), 0, -1);
        waits("not hooked, TIES 99", Due.with("load a 5 1 20; silk s 9 0; ties = 99;"), 0, -99);
        waits("not hooked, TIES less by 1 each", Due.with("load a 5 1 20; silk s 9 0; ties = 99 - hour;"), 0, -99);
        waits("not hooked, TIES less by 2 each", Due.with("load a 5 1 20; silk s 9 0; ties = 99 - 2 * hour - day * 48;"), 24, -99 + 24);
        waits("hooked later for less than nothing", Due.with("load a 5 1 20; silk s 9 0; hook h 5 0 1; rim 8; wind = if hour < 5 then 1 else 0; ties = 30;"),
                5, 20 - 30 - 5);
        waits("hooked much later for less", Due.with("load a 5 1 20; silk s 9 0; hook h 5 0 1; rim 8; wind = if hour < 20 then 1 else 0; ties = 30;"), 0, -30);
        waits("0", Due.with("load a 5 1 20; silk s 9 0; hook h 5 0 1; rim 8; ties = 20;"), 0, 0);
    }

    private static void waitsTiesAsOfThen() {
        Due.says("23: less TIES (as of then, nothing in the air)");
        SilkRise x = Due.with("load a 5 1 20; load b 5 1 20; silk s 9 0; silk t 2 0; hook h 5 5 1; rim 8; ties = if hour < 3 then 15 else 5 + up * 50 + stored;");
        waits("as of w 3", x, 3, 12);
        x.tie(1, 1);
        waits("one in the air", x, 3, 12);
        x.hours(2);
        waits("two hours on", x, 1, 14);
        x.hours(6);
        Due.due("STORED", x.count(6), 2);
        waits("one STORED", x, 0, 14);
        x = Due.with("load a 5 4 20; silk s 7 0; hook h 5 5 1; rim 3; ties = size * 10 + weight - 70;");
        waits("by SIZE and WEIGHT", x, 0, 16);
    }

    private static void waitsNoSuchOnes() {
        Due.says("23: -100000: one is not at the foot, no such ones");
        SilkRise x = Due.with("load a 5 1 20; load b 5 1 20; load c 9 1 1; silk s 9 0; silk t 9 0; silk u 9 0; hook h 5 0 1; rim 8;");
        for (int i : new int[] {-1, -2, 3, 5, 7, 100, Integer.MIN_VALUE, Integer.MAX_VALUE}) {
            Due.due("waits(" + i + ", 0, 0)", x.waits(i, 0, 0), -100000);
            Due.due("waits(0, " + i + ", 1)", x.waits(0, i, 1), -100000);
            Due.due("waits(0, 0, " + i + ")", x.waits(0, 0, i), -100000);
        }
        Due.due("waits(0, 0, 2)", x.waits(0, 0, 2), -100000);
        x.tie(0, 0);
        for (int what = 0; what < 2; what++) {
            Due.due("the LOAD in the air", x.waits(0, 1, what), -100000);
            Due.due("the SILK in the air", x.waits(1, 0, what), -100000);
        }
        x.hours(1);
        Due.due("the LOAD STORED", x.waits(0, 0, 0), -100000);
        x.tie(2, 0);
        x.hours(1);
        Due.due("the LOAD MISSED", x.waits(2, 0, 0), -100000);
        Due.due("both at the foot", x.waits(1, 0, 1), 19);
    }

    private static void thenAsNow() {
        Due.says("24: IN n HOURS (0 ..: as it is now)");
        SilkRise x = Due.with("load a 5 1 20; load b 5 1 20; load c 9 1 1; load d 9 2 1; silk s 9 1; silk t 9 0; silk u 9 2; hook h 6 0 1; rim 8;");
        x.tie(0, 0);
        x.tie(2, 1);
        x.hours(1);
        x.tie(3, 2);
        x.hours(1);
        int[][] due = {{2, 6, 0}, {0, 5, 0}, {3, 9, 0}, {1, 11, 7}};
        for (int load = 0; load < 4; load++) {
            for (int what = 0; what < 3; what++) {
                Due.due("then(" + load + ", 0, " + what + ")", x.then(load, 0, what), due[load][what]);
            }
        }
        int[] later = {3, 13, 0};
        for (int what = 0; what < 3; what++) {
            Due.due("then(3, 1, " + what + ")", x.then(3, 1, what), later[what]);
            Due.due("then(3, 72, " + what + ")", x.then(3, 72, what), later[what]);
            Due.due("then(0, 72, " + what + ")", x.then(0, 72, what), due[0][what]);
            Due.due("then(1, 72, " + what + ")", x.then(1, 72, what), due[1][what]);
        }
    }

    private static void thenUpTo72() {
        Due.says("24: IN n HOURS (.. 72): how a LOAD is, its X, how high");
        SilkRise x = Due.with("load a 0 1 20; silk s 2 0; hook h 19 5 1; rim 72; wind = if hour < 12 then 0 else 1;");
        x.tie(0, 0);
        for (int n = 0; n <= 72; n++) {
            Due.due("then(0, " + n + ", 0)", x.then(0, n, 0), n < 72 ? 1 : 2);
            Due.due("then(0, " + n + ", 1)", x.then(0, n, 1), Math.min(19, n / 24 * 12 + Math.max(0, n % 24 - 12)));
            Due.due("then(0, " + n + ", 2)", x.then(0, n, 2), n < 72 ? n : 0);
        }
        SilkRise down = Due.with("load a 3 1 20; silk s 2 1; rim 72; lift = if hour < 1 then 4 else 0 - 2;");
        down.tie(0, 0);
        int[][] due = {{1, 3, 0}, {1, 4, 4}, {1, 5, 2}, {0, 6, 0}, {0, 6, 0}};
        for (int n = 0; n < 5; n++) {
            for (int what = 0; what < 3; what++) {
                Due.due("then(0, " + n + ", " + what + ")", down.then(0, n, what), due[n][what]);
            }
        }
    }

    private static void thenNoSuchOnes() {
        Due.says("24: NONE: no such ones");
        SilkRise x = Due.with("load a 5 1 20; load b 5 1 20; load c 9 1 1; silk s 9 0;");
        for (int i : new int[] {-1, -2, 3, 5, 7, 100, Integer.MIN_VALUE, Integer.MAX_VALUE}) {
            Due.due("then(" + i + ", 1, 0)", x.then(i, 1, 0), -1);
            Due.due("then(0, 1, " + i + ")", x.then(0, 1, i), -1);
        }
        for (int n : new int[] {-1, -2, 73, 74, 100, Integer.MIN_VALUE, Integer.MAX_VALUE}) {
            Due.due("then(0, " + n + ", 0)", x.then(0, n, 0), -1);
        }
    }

    private static void earnsBetween() {
        Due.says("25: IN n HOURS what is earned more (from now on, nothing tied)");
        SilkRise x = Due.with("load a 5 1 7; load b 5 1 11; load c 5 1 90; silk s 9 0; silk t 2 0; silk u 9 0; hook h 5 0 1; rim 8; ties = 5;"
                + "pays = price + stored;");
        Due.due("nothing in the air", x.earns(72), 0);
        x.tie(0, 0);
        x.tie(1, 1);
        int[] due = {0, 7, 7, 7, 7, 7, 7, 7, 19, 19};
        for (int n = 0; n < due.length; n++) {
            Due.due("earns(" + n + ")", x.earns(n), due[n]);
        }
        Due.due("earns(72)", x.earns(72), 19);
        x.hours(1);
        Due.due("earned", x.count(8), 7);
        Due.due("earns(0) from now on", x.earns(0), 0);
        Due.due("earns(6) from now on", x.earns(6), 0);
        Due.due("earns(7) from now on", x.earns(7), 12);
        SilkRise late = Due.with("load a 5 1 7; silk s 2 0; hook h 5 0 1; rim 72;");
        late.tie(0, 0);
        Due.due("earns(71)", late.earns(71), 0);
        Due.due("earns(72)", late.earns(72), 7);
    }

    private static void earnsNoSuchN() {
        Due.says("25: NONE: no such n");
        SilkRise x = Due.with("load a 5 1 7; silk s 9 0; hook h 5 0 1; rim 8;");
        x.tie(0, 0);
        for (int n : new int[] {-1, -2, 73, 74, 100, Integer.MIN_VALUE, Integer.MAX_VALUE}) {
            Due.due("earns(" + n + ")", x.earns(n), -1);
            Due.due("earns(" + n + ") of a new object", new SilkRise().earns(n), -1);
        }
        Due.due("earns(0) of a new object", new SilkRise().earns(0), 0);
    }

    private static void inHoursByGusts() {
        Due.says("no GUSTS but IN n HOURS and in a YEAR");
        SilkRise x = Due.with("load a 0 1 7; silk s 2 0; rim 99; wind = if across < 9 then 1 else 0 - 1; gusts 50; seed 1;");
        x.hours(2);
        x.tie(0, 0);
        // LOT 100 of SEED 1 from hour 2 on: 14 26 27 70 93 77 86 25.
        int[] at = {0, 2, 4, 6, 7, 8, 9, 8, 10};
        for (int n = 0; n < at.length; n++) {
            Due.due("then(0, " + n + ", 1)", x.then(0, n, 1), at[n]);
        }
        for (int n = 1; n < at.length; n++) {
            x.hours(1);
            Due.due("X in hour " + x.count(3), x.load(0, 0), at[n]);
        }
        // By a GUST it is hooked by the one at 7, else by the one at 6.
        for (int seed = 0; seed < 30; seed++) {
            x = Due.with("load a 5 1 7; load b 5 1 30; silk s 9 0; silk t 9 1; hook h 6 0 1; hook g 7 0 1; rim 8; wind = 1; gusts 50; seed " + seed + ";");
            boolean gust = ThingsTest.lot(seed, 0) < 50;
            x.tie(0, 0);
            x.tie(1, 1);
            // a to 6 or 7, b to 7 or 8.
            Due.due("earns(1) by SEED " + seed, x.earns(1), gust ? 7 : 37);
            Due.due("then(1, 1, 0) by SEED " + seed, x.then(1, 1, 0), gust ? 3 : 2);
            Due.due("year(1, 1, 1) by SEED " + seed, x.year(1, 1, 1), gust ? 0 : 1);
            x.hours(1);
            Due.due("earned by SEED " + seed, x.count(8), gust ? 7 : 37);
        }
    }

    private static void yearBySeeds() {
        Due.says("26: YEAR by s SEEDS (1 .. 20) from the text's SEED on: in how many of them a LOAD is STORED in n HOURS (0 .. 72)");
        for (int seed : new int[] {0, 77, 9980, 9999}) {
            SilkRise x = Due.with("load a 5 1 7; load b 9 1 7; silk s 9 0; silk t 9 0; hook h 7 0 1; rim 8; wind = 1; gusts 40; seed " + seed + ";");
            x.tie(0, 0);
            x.tie(1, 1);
            int due = 0;
            for (int s = 1; s <= 20; s++) {
                due += ThingsTest.lot(seed + s - 1, 0) < 40 ? 1 : 0;
                Due.due("year(0, 1, " + s + ") from " + seed, x.year(0, 1, s), due);
                Due.due("year(1, 1, " + s + ") from " + seed, x.year(1, 1, s), 0);
            }
            Due.due("year(0, 0, 20)", x.year(0, 0, 20), 0);
            Due.due("year(0, 72, 20)", x.year(0, 72, 20), due);
            Due.due("some of them", due > 0 && due < 20, true);
        }
        SilkRise x = Due.with("load a 5 1 7; load b 5 1 7; load c 5 1 1; silk s 2 0; silk t 9 0; hook h 5 0 1; rim 72;");
        x.tie(0, 0);
        Due.due("year(0, 71, 20)", x.year(0, 71, 20), 0);
        Due.due("year(0, 72, 20)", x.year(0, 72, 20), 20);
        Due.due("year(0, 72, 1)", x.year(0, 72, 1), 1);
        Due.due("at the foot", x.year(1, 72, 20), 0);
        x.tie(1, 1);
        x.hours(9);
        Due.due("STORED already", x.year(1, 0, 20), 20);
        Due.due("STORED already", x.year(1, 0, 1), 1);
        Due.due("the SEED stays", x.count(14), 0);
    }

    private static void yearNoSuchOnes() {
        Due.says("26: NONE: no such ones");
        SilkRise x = Due.with("load a 5 1 7; load b 5 1 7; load c 5 1 1; silk s 9 0; hook h 5 0 1; rim 8;");
        x.tie(0, 0);
        for (int i : new int[] {-1, -2, 3, 5, 7, 100, Integer.MIN_VALUE, Integer.MAX_VALUE}) {
            Due.due("year(" + i + ", 1, 1)", x.year(i, 1, 1), -1);
        }
        for (int n : new int[] {-1, -2, 73, 74, 100, Integer.MIN_VALUE, Integer.MAX_VALUE}) {
            Due.due("year(0, " + n + ", 1)", x.year(0, n, 1), -1);
        }
        for (int s : new int[] {0, -1, 21, 22, 100, Integer.MIN_VALUE, Integer.MAX_VALUE}) {
            Due.due("year(0, 1, " + s + ")", x.year(0, 1, s), -1);
        }
        Due.due("year(0, 1, 1)", x.year(0, 1, 1), 1);
        Due.due("year(0, 1, 20)", x.year(0, 1, 20), 20);
    }
}
