/** Each boundary of the LAWS and of the LOT. */
public final class EdgesLawsTest {
    private static final String[] LAWS = {"lift", "wind", "ties", "pays"};
    private static final int[] LEAST = {-9, -3, 0, 0};
    private static final int[] MOST = {9, 3, 99, 99};

    public static void main(String[] args) {
        theHourOfTheDay();
        theFirstIfThatHolds();
        oneLessThanTheOther();
        wrapping();
        roundedTowardsZero();
        dividedByZero();
        notLookedAt();
        fromTheLeft();
        notToldForALaw();
        forAll();
        held();
        heldInHours();
        lots();
        lessThanGusts();
        theWayOfAGust();
        Due.end("EdgesLawsTest");
    }

    /** What TIES tells by a LAW at hour 0 of a LOAD with WEIGHT 4 and a SILK with SIZE 7. */
    private static void ties(String law, int due) {
        SilkRise x = Due.with("load a 11 4 50; silk s 7 1; ties = " + law + ";");
        Due.due("TIES " + law, x.tells(0, 0, 2), due);
    }

    private static void theHourOfTheDay() {
        Due.says("the hour of the day: its rest by 24; the day: it by 24");
        SilkRise x = Due.with("load a 1 1 1; silk s 1 1; ties = hour; pays = day;");
        for (int hour = 0; hour < 100; hour++) {
            Due.due("hour of the day at " + hour, x.tells(0, 0, 2), hour % 24);
            Due.due("day at " + hour, x.tells(0, 0, 3), hour / 24);
            x.hours(1);
        }
        x = Due.with("load a 1 1 1; silk s 1 1; ties = hour; pays = day - 1437;");
        for (int i = 0; i < 480; i++) {
            x.hours(72);
        }
        x.hours(23);
        Due.due("the hour", x.count(3), 480 * 72 + 23);
        Due.due("hour of the day", x.tells(0, 0, 2), 23);
        Due.due("day", x.tells(0, 0, 3), 3);
        x.hours(1);
        Due.due("hour of the day", x.tells(0, 0, 2), 0);
        Due.due("day", x.tells(0, 0, 3), 4);
    }

    private static void theFirstIfThatHolds() {
        Due.says("the E of the first if that holds .. else the last one");
        for (int first = 0; first <= 4; first++) {
            for (int second = first; second <= 4; second++) {
                StringBuilder law = new StringBuilder();
                for (int i = 0; i < 4; i++) {
                    law.append(i == first || i == second ? "if 1<2" : "if 2<1").append(" then ").append(10 + i).append(" else ");
                }
                ties(law + "14", 10 + first);
            }
        }
        ties("if 1<2 then 3 else 4", 3);
        ties("if 2<1 then 3 else 4", 4);
    }

    private static void oneLessThanTheOther() {
        Due.says("one less than the other");
        ties("if 6<size then 1 else 2", 1);
        ties("if 7<size then 1 else 2", 2);
        ties("if 8<size then 1 else 2", 2);
        ties("if size<7 then 1 else 2", 2);
        ties("if size<8 then 1 else 2", 1);
        ties("if 0-1<0 then 1 else 2", 1);
        ties("if 0<0-1 then 1 else 2", 2);
        ties("if 0<0 then 1 else 2", 2);
        ties("if 0-2<0-1 then 1 else 2", 1);
        // The least int is less than the most one, though what is between them wraps.
        ties("if 8192*8192*32<8192*8192*32-1 then 1 else 2", 1);
        ties("if 8192*8192*32-1<8192*8192*32 then 1 else 2", 2);
    }

    private static void wrapping() {
        Due.says("ints of 32 bits that wrap");
        ties("if 8192*8192*31+8192*8191+8191<0 then 1 else 2", 2);
        ties("if 8192*8192*31+8192*8191+8191+1<0 then 1 else 2", 1);
        ties("if 0-8192*8192*31-8192*8191-8191-2<0 then 1 else 2", 2);
        ties("if 0-8192*8192*31-8192*8191-8191-1<0 then 1 else 2", 1);
        ties("8192*8192*32*2+5", 5);
        ties("8192*8192*64+6", 6);
        ties("8192*8192*32+8192*8192*32+7", 7);
        ties("8192*8192*32-8192*8192*32+8", 8);
        // 9999 * 9999 * 9999 wraps to -1027349969.
        ties("9999*9999*9999/9999/9999*3+50", 20);
        // The least int by -1 is the least int.
        ties("8192*8192*32/(0-1)-8192*8192*32+9", 9);
        ties("8192*8192*32*(0-1)-8192*8192*32+3", 3);
        ties("(0-8192*8192*32)+8192*8192*32+4", 4);
        // It is held behind all wrapping.
        ties("8192*8192*32-1", 99);
        ties("8192*8192*32", 0);
    }

    private static void roundedTowardsZero() {
        Due.says("/ rounded towards 0");
        int[][] all = {{7, 2}, {8, 2}, {9, 10}, {0, 3}, {1, 2}, {99, 100}, {5, 5}, {9999, 2}};
        for (int[] one : all) {
            int a = one[0];
            int b = one[1];
            ties(a + "/" + b + "-4990*(" + a + "/9999)", a / b - 4990 * (a / 9999));
            ties("0-(0-" + a + ")/" + b + "-4990*(" + a + "/9999)", a / b - 4990 * (a / 9999));
            ties("0-" + a + "/(0-" + b + ")-4990*(" + a + "/9999)", a / b - 4990 * (a / 9999));
            ties("(0-" + a + ")/(0-" + b + ")-4990*(" + a + "/9999)", a / b - 4990 * (a / 9999));
        }
        ties("50+(0-7)/2", 47);
        ties("50+7/(0-2)", 47);
        ties("50+(0-1)/2", 50);
        ties("50+(0-1)/9999", 50);
        ties("50+(0-4)/4", 49);
        ties("50+(0-3)/4", 50);
    }

    private static void dividedByZero() {
        Due.says("a LAW in which something that is looked at is divided by 0 is 0");
        ties("5/0", 0);
        ties("0/0", 0);
        ties("50+5/0", 0);
        ties("5/0+50", 0);
        ties("5/0*0+50", 0);
        ties("50+0*(1/0)", 0);
        ties("50/(7-size)", 0);
        ties("50/hour", 0);
        ties("50/(hour+1)", 50);
        ties("if 1/0<1 then 50 else 60", 0);
        ties("if 1<1/0 then 50 else 60", 0);
        ties("if 1<2 then 1/0 else 60", 0);
        ties("if 2<1 then 50 else 1/0", 0);
        ties("if 2<1 then 50 else if 1/0<1 then 60 else 70", 0);
        ties("if 2<1 then 50 else if 1<2 then 50/up else 70", 0);
        for (int law = 0; law < 4; law++) {
            SilkRise x = Due.with("load a 11 4 50; silk s 7 1; " + LAWS[law] + " = 3 + 1 / up;");
            Due.due("divided by 0, " + LAWS[law], x.tells(0, 0, law), 0);
        }
    }

    private static void notLookedAt() {
        Due.says("something that is looked at: what is not is not divided");
        ties("if 1<2 then 50 else 1/0", 50);
        ties("if 2<1 then 1/0 else 60", 60);
        ties("if 1<2 then 50 else if 1/0<1 then 60 else 70", 50);
        ties("if 1<2 then 50 else if 1<1/0 then 60 else 70", 50);
        ties("if 2<1 then 1/0 else if 1<2 then 60 else 1/0", 60);
        ties("if 2<1 then 1/0 else if 2<1 then 1/0 else if 2<1 then 1/0 else if 2<1 then 1/0 else 70", 70);
    }

    private static void fromTheLeft() {
        Due.says("E: PART {('+' | '-') PART}. PART: UNIT {('*' | '/') UNIT}");
        ties("9-5-3", 1);
        ties("9-(5-3)", 7);
        ties("9-5+3", 7);
        ties("2+3*4", 14);
        ties("(2+3)*4", 20);
        ties("2*3+4", 10);
        ties("60/6/2", 5);
        ties("60/(6/2)", 20);
        ties("60/6*2", 20);
        ties("7/2*2", 6);
        ties("7*2/2", 7);
        ties("20-12/4-2*3", 11);
        ties("((((((9))))))-((((((1))))))", 8);
        ties("1-(2-(3-(4-(5-(6-(7))))))", 4);
        ties("99-(1+(1+(1+(1+(1+(1*2))))))", 92);
    }

    private static void notToldForALaw() {
        Due.says("a VAR not told for a LAW is 0 in it");
        String[] vars = {"size", "weight", "high", "across", "price"};
        // LIFT (size, weight, high, across), WIND (high, across), TIES (size, weight), PAYS (price, weight).
        boolean[][] told = {{true, true, false, true, false}, {false, false, false, true, false}, {true, true, false, false, false},
            {false, true, false, false, true}};
        int[] values = {7, 4, 0, 11, 50};
        for (int law = 0; law < 4; law++) {
            for (int var = 0; var < 5; var++) {
                int due = told[law][var] ? values[var] : 0;
                for (int more = 0; more < 2; more++) {
                    SilkRise x = Due.with("load a 11 4 50; silk s 7 1; " + LAWS[law] + " = if " + vars[var] + " < " + (due + more) + " then 2 else 1;");
                    Due.due(LAWS[law] + " by " + vars[var] + " less than " + (due + more), x.tells(0, 0, law), 1 + more);
                }
            }
        }
        // On its way a LOAD is high for LIFT and for WIND, not for PAYS.
        SilkRise x = Due.with("load a 5 1 1; silk s 9 0; rim 9; lift = 2 + high; wind = high / 2; pays = 7 + high + across + size; hook h 9 5 1;");
        x.tie(0, 0);
        x.hours(1);
        Due.due("high", x.load(0, 4), 2);
        Due.due("X", x.load(0, 0), 5);
        x.hours(1);
        Due.due("high", x.load(0, 4), 6);
        Due.due("X", x.load(0, 0), 6);
        x.hours(1);
        Due.due("STORED at", x.load(0, 0), 9);
        Due.due("earned", x.count(8), 7);
    }

    private static void forAll() {
        Due.says("hour (of the day), day, up (LOADS in the air), stored (LOADS that were hooked so far) for all");
        String[] vars = {"hour", "day", "up", "stored"};
        int[] values = {2, 3, 1, 2};
        for (int law = 0; law < 4; law++) {
            for (int var = 0; var < 4; var++) {
                for (int more = 0; more < 2; more++) {
                    SilkRise x = Due.with("load a 5 1 1; load b 5 1 1; load c 6 1 1; load d 5 9 1; silk s 9 0; silk t 9 0; silk u 9 0; rim 8;"
                            + "hook h 5 0 2;" + LAWS[law] + " = if day < 1 then " + (law == 1 ? 0 : 9) + " else if " + vars[var] + " < "
                            + (values[var] + more) + " then 2 else 1;");
                    x.tie(0, 0);
                    x.tie(1, 1);
                    x.tie(2, 2);
                    x.hours(72);
                    x.hours(2);
                    x.tie(3, 0);
                    Due.due("two STORED, one MISSED, one in the air", x.count(6) * 100 + x.count(7) * 10 + x.count(5), 300 + 40 + 8);
                    Due.due(LAWS[law] + " by " + vars[var] + " less than " + (values[var] + more), x.tells(3, 0, law), 1 + more);
                }
            }
        }
    }

    private static void held() {
        Due.says("LIFT, held to -9 .. 9; WIND, held to -3 .. 3; TIES, held to 0 .. 99; PAYS, held to 0 .. 99");
        for (int law = 0; law < 4; law++) {
            int[] values = {LEAST[law] - 1, LEAST[law], LEAST[law] + 1, MOST[law] - 1, MOST[law], MOST[law] + 1, -9999, 9999};
            for (int value : values) {
                SilkRise x = Due.with("load a 11 4 50; silk s 7 1; " + LAWS[law] + " = " + (value < 0 ? "0 - " + -value : "" + value) + ";");
                Due.due(LAWS[law] + " of " + value, x.tells(0, 0, law), Math.max(LEAST[law], Math.min(MOST[law], value)));
            }
        }
        Due.due("LIFT by 9 and 1", Due.with("load a 1 1 1; silk s 9 0;").tells(0, 0, 0), 8);
        Due.due("LIFT by 1 and 9", Due.with("load a 1 9 1; silk s 1 0;").tells(0, 0, 0), -8);
    }

    private static void heldInHours() {
        Due.says("held, as HOURS go by too");
        SilkRise x = Due.with("load a 8 1 1; silk s 1 0; rim 99; lift = if day < 1 then 50 else 0 - 50; wind = if day < 1 then 9 else 0 - 9;"
                + "ties = 200; pays = 300; hook h 19 5 1;");
        Due.due("tie(0, 0)", x.tie(0, 0), 99);
        Due.due("paid", x.count(9), 99);
        Due.due("then(0, 10, 2)", x.then(0, 10, 2), 90);
        x.hours(2);
        Due.due("high", x.load(0, 4), 18);
        Due.due("X", x.load(0, 0), 14);
        x.hours(9);
        Due.due("STORED", x.load(0, 3), 2);
        Due.due("earned", x.count(8), 99);
        x = Due.with("load a 8 1 1; silk s 1 0; rim 99; lift = if high < 20 then 9 else 0; ties = 0 - 5; pays = 0 - 5;");
        Due.due("tie(0, 0)", x.tie(0, 0), 0);
        Due.due("paid", x.count(9), 0);
        x.hours(3);
        Due.due("high", x.load(0, 4), 27);
        x = Due.with("load a 8 1 1; silk s 1 0; rim 99; lift = if high < 19 then 9 else 0 - 50; wind = 0 - 9;");
        x.tie(0, 0);
        x.hours(3);
        Due.due("high", x.load(0, 4), 27);
        Due.due("X", x.load(0, 0), 0);
        x.hours(1);
        Due.due("down by 9", x.load(0, 4), 18);
        x = Due.with("load a 5 1 1; silk s 1 0; rim 1; lift = 1; pays = 0 - 7; hook h 5 0 1;");
        x.tie(0, 0);
        x.hours(1);
        Due.due("STORED for nothing", x.count(6), 1);
        Due.due("earned", x.count(8), 0);
    }

    private static void lots() {
        Due.says("LOT n of a SEED and a which");
        int[] seeds = {0, 1, 77, 9999};
        int[][] lots = {{62, 67, 85, 54, 27, 52, 26, 99, 76, 61, 71, 91}, {88, 23, 14, 26, 27, 70, 93, 77, 86, 25, 4, 83},
            {84, 75, 6, 49, 15, 90, 45, 89, 78, 49, 0, 64}, {27, 99, 17, 24, 34, 42, 40, 15, 14, 33, 63, 14}};
        for (int i = 0; i < seeds.length; i++) {
            for (int hour = 0; hour < 12; hour++) {
                int lot = lots[i][hour];
                Due.due("LOT by hand", ThingsTest.lot(seeds[i], 4 * hour), lot);
                SilkRise not = Due.with("seed " + seeds[i] + "; gusts " + lot + ";");
                SilkRise just = Due.with("seed " + seeds[i] + "; gusts " + (lot + 1) + ";");
                not.hours(hour);
                just.hours(hour);
                Due.due("GUSTS " + lot + " by " + seeds[i] + " in " + hour, not.count(14), 0);
                Due.due("GUSTS " + (lot + 1) + " by " + seeds[i] + " in " + hour, just.count(14), 1);
            }
        }
    }

    private static void lessThanGusts() {
        Due.says("is less than GUSTS; 4 * the hour, counted on");
        // The LOT of SEED 38 is 0 in its first hour, that of SEED 0 is 99 in its eighth.
        SilkRise none = Due.with("seed 38; gusts 0;");
        Due.due("GUSTS 0, LOT 0", none.count(14), 0);
        SilkRise one = Due.with("seed 38; gusts 1;");
        Due.due("GUSTS 1, LOT 0", one.count(14), 1);
        SilkRise most = Due.with("gusts 99;");
        SilkRise all = Due.with("gusts 100;");
        for (int hour = 0; hour < 30; hour++) {
            Due.due("GUSTS 99 in " + hour, most.count(14), ThingsTest.lot(0, 4 * hour) == 99 ? 0 : 1);
            Due.due("GUSTS 100 in " + hour, all.count(14), 1);
            most.hours(1);
            all.hours(1);
        }
        // The hour is counted on: the second day is not as the first one.
        SilkRise days = Due.with("gusts 60;");
        for (int hour = 0; hour < 96; hour++) {
            Due.due("GUSTS 60 in " + hour, days.count(14), ThingsTest.lot(0, 4 * hour) < 60 ? 1 : 0);
            days.hours(1);
        }
        for (int i = 0; i < 50; i++) {
            days.hours(72);
            Due.due("GUSTS 60 much later", days.count(14), ThingsTest.lot(0, 4 * (96 + 72 * (i + 1))) < 60 ? 1 : 0);
        }
    }

    private static void theWayOfAGust() {
        Due.says("by 1 more the way in which WIND tells (0: none) in a GUST");
        for (int wind = -4; wind <= 4; wind++) {
            String told = "wind = " + (wind < 0 ? "0 - " + -wind : "" + wind) + ";";
            SilkRise gust = Due.with("load a 10 1 1; silk s 2 1; rim 99; gusts 100;" + told);
            SilkRise calm = Due.with("load a 10 1 1; silk s 2 1; rim 99; gusts 0;" + told);
            gust.tie(0, 0);
            calm.tie(0, 0);
            gust.hours(1);
            calm.hours(1);
            int held = Math.max(-3, Math.min(3, wind));
            Due.due("a GUST by WIND " + wind, gust.load(0, 0), 11 + held + Integer.signum(held));
            Due.due("no GUST by WIND " + wind, calm.load(0, 0), 11 + held);
        }
    }
}
