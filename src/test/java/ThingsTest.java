/** Promises 6 to 10 and 33: what is told of LOADS, SILKS, HOOKS, LAWS and of all together. */
public final class ThingsTest {
    private static final String TEXT = "load a 5 2 10; load b 8 6 30; silk s 7 0; silk t 4 -1; hook h 5 1 1; hook g 3 0 2;"
            + " rim 10; wind = high / 6; pays = price + stored;";

    public static void main(String[] args) {
        atTheFoot();
        onTheWay();
        noSuchOnes();
        laws();
        varsOfLaws();
        eachVarOfEachLaw();
        longLaw();
        gusts();
        gustsNotTold();
        Due.end("ThingsTest");
    }

    private static void atTheFoot() {
        SilkRise x = Due.with(TEXT);
        int[][] loads = {{5, 2, 10, 0, 0, -2, -2}, {8, 6, 30, 0, 0, -2, -2}};
        int[][] silks = {{7, -2, 0}, {4, -2, 0}};
        int[][] hooks = {{5, 1, 1, 0}, {3, 0, 2, 0}};
        for (int i = 0; i < 2; i++) {
            for (int what = 0; what < 7; what++) {
                Due.due("load(" + i + ", " + what + ")", x.load(i, what), loads[i][what]);
            }
            for (int what = 0; what < 3; what++) {
                Due.due("silk(" + i + ", " + what + ")", x.silk(i, what), silks[i][what]);
            }
            for (int what = 0; what < 4; what++) {
                Due.due("hook(" + i + ", " + what + ")", x.hook(i, what), hooks[i][what]);
            }
        }
        Due.due("pull(0)", x.pull(0), 0);
        Due.due("pull(1)", x.pull(1), -1);
    }

    private static void onTheWay() {
        SilkRise x = Due.with(TEXT);
        x.tie(0, 0);
        x.hours(1);
        int[] load = {5, 2, 10, 1, 5, 0, -2};
        int[] silk = {7, 0, 1};
        for (int what = 0; what < 7; what++) {
            Due.due("in the air load(0, " + what + ")", x.load(0, what), load[what]);
        }
        for (int what = 0; what < 3; what++) {
            Due.due("in the air silk(0, " + what + ")", x.silk(0, what), silk[what]);
        }
        Due.due("count(4)", x.count(4), 2);
        Due.due("count(5)", x.count(5), 1);
        x.hours(1);
        int[] stored = {5, 2, 10, 2, 0, -2, 0};
        for (int what = 0; what < 7; what++) {
            Due.due("STORED load(0, " + what + ")", x.load(0, what), stored[what]);
        }
        Due.due("hook(0, 3)", x.hook(0, 3), 1);
        Due.due("hook(1, 3)", x.hook(1, 3), 0);
        x.tie(1, 0);
        // It rises by 1 an hour; by the 7th on it goes aside by 1.
        x.hours(10);
        int[] missed = {12, 6, 30, 3, 0, -2, -2};
        for (int what = 0; what < 7; what++) {
            Due.due("MISSED load(1, " + what + ")", x.load(1, what), missed[what]);
        }
        int[] due = {2, 2, 2, 12, 0, 0, 1, 2, 10, 8, 0, 5, 0, 0, 0, 10};
        for (int what = 0; what < due.length; what++) {
            Due.due("count(" + what + ")", x.count(what), due[what]);
        }
        x.feed(0, 0, 0, 0, 0);
        x.tell(1, 1, 1, 1, 1);
        x.hold(2);
        Due.due("count(10)", x.count(10), 20);
        Due.due("count(12)", x.count(12), 1);
        Due.due("count(13)", x.count(13), 1);
    }

    private static void noSuchOnes() {
        SilkRise x = Due.with(TEXT);
        int[] others = {-1, 2, 7, Integer.MIN_VALUE, Integer.MAX_VALUE};
        for (int i : others) {
            Due.due("load(" + i + ", 0)", x.load(i, 0), -1);
            Due.due("silk(" + i + ", 0)", x.silk(i, 0), -1);
            Due.due("hook(" + i + ", 0)", x.hook(i, 0), -1);
            Due.due("pull(" + i + ")", x.pull(i), -100);
            for (int what = 0; what < 4; what++) {
                Due.due("tells(" + i + ", 0, " + what + ")", x.tells(i, 0, what), -100);
            }
            Due.due("tells(0, " + i + ", 0)", x.tells(0, i, 0), -100);
            Due.due("tells(0, " + i + ", 1)", x.tells(0, i, 1), 0);
            Due.due("tells(0, " + i + ", 2)", x.tells(0, i, 2), -100);
            Due.due("tells(0, " + i + ", 3)", x.tells(0, i, 3), 10);
        }
        int[] whats = {-1, Integer.MIN_VALUE, Integer.MAX_VALUE};
        for (int what : whats) {
            Due.due("load(0, " + what + ")", x.load(0, what), -1);
            Due.due("silk(0, " + what + ")", x.silk(0, what), -1);
            Due.due("hook(0, " + what + ")", x.hook(0, what), -1);
            Due.due("tells(0, 0, " + what + ")", x.tells(0, 0, what), -100);
            Due.due("count(" + what + ")", x.count(what), -1);
        }
        Due.due("load(0, 7)", x.load(0, 7), -1);
        Due.due("silk(0, 3)", x.silk(0, 3), -1);
        Due.due("hook(0, 4)", x.hook(0, 4), -1);
        Due.due("tells(0, 0, 4)", x.tells(0, 0, 4), -100);
        Due.due("count(16)", x.count(16), -1);
    }

    private static void lift(String law, int due) {
        SilkRise x = Due.with("load a 4 3 50; silk s 8 1; lift = " + law + ";");
        Due.due("LIFT " + law, x.tells(0, 0, 0), due);
    }

    private static void laws() {
        lift("7 - 2 - 1", 4);
        lift("7 - (2 - 1)", 6);
        lift("1 + 2 * 3", 7);
        lift("(1 + 2) * 3", 9);
        lift("8 / 2 * 2", 8);
        lift("8 / (2 * 2)", 2);
        lift("7 / 2", 3);
        lift("(0 - 7) / 2", -3);
        lift("7 / (0 - 2)", -3);
        lift("2 - 7 / 2", -1);
        lift("9", 9);
        lift("10", 9);
        lift("0 - 9", -9);
        lift("0 - 10", -9);
        lift("if 1 < 2 then 3 else 4", 3);
        lift("if 2 < 2 then 3 else 4", 4);
        lift("if 3 < 2 then 3 else 4", 4);
        lift("if 3 < 2 then 3 else if size - 1 < weight * 3 then 5 else 6", 5);
        lift("if 1 < 2 then 3 else if 1 < 2 then 5 else 6", 3);
        lift("if 2 < 1 then 1 else if 2 < 1 then 2 else if 2 < 1 then 3 else if 2 < 1 then 4 else 5", 5);
        lift("if 2 < 1 then 1 else if 2 < 1 then 2 else if 2 < 1 then 3 else if 1 < 2 then 4 else 5", 4);
        lift("5 / 0", 0);
        lift("5 + 1 / 0", 0);
        lift("0 / 0", 0);
        lift("if 1 / 0 < 1 then 5 else 6", 0);
        lift("if 1 < 2 then 7 else 1 / 0", 7);
        lift("if 2 < 1 then 1 / 0 else 7", 7);
        lift("if 1 < 2 then 7 else if 1 / 0 < 1 then 2 else 3", 7);
        lift("if 2 < 1 then 7 else if 1 / (3 - weight) < 1 then 2 else 3", 0);
        // 32 bits wrap: 2^31 is the least int, and stays so by - 1.
        lift("8192 * 8192 * 32", -9);
        lift("8192 * 8192 * 32 - 1", 9);
        lift("8192 * 8192 * 64 + 5", 5);
        lift("8192 * 8192 * 32 / (0 - 1)", -9);
        lift("9999 * 9999 * 9999 / 9999 / 9999 + 8", 9999 * 9999 * 9999 / 9999 / 9999 + 8);
        lift("((((((size))))) - 1) - ((((((weight))))))", 4);
    }

    private static void varsOfLaws() {
        // Each VAR tells by its own ten, so that one not told for a LAW is seen to be 0.
        String all = "hour + day * 3 + size * 2 + weight + high + across + price + up * 5 + stored * 9";
        SilkRise x = Due.with("load a 4 2 1; load b 19 1 1; load c 4 1 1; silk s 9 0; silk t 8 0; hook h 19 0 1; rim 9;"
                + "lift = if up < 2 then (" + all + ") / 8 else size - weight; wind = (" + all + ") / 10 - 1; ties = " + all
                + "; pays = " + all + ";");
        Due.due("LIFT (4 + 18 + 2) / 8", x.tells(0, 0, 0), 3);
        Due.due("WIND 4 / 10 - 1", x.tells(0, 0, 1), -1);
        Due.due("TIES 18 + 2", x.tells(0, 0, 2), 20);
        Due.due("PAYS 2 + 1", x.tells(0, 0, 3), 3);
        x.hours(53);
        Due.due("WIND (5 + 6 + 4) / 10 - 1", x.tells(0, 0, 1), 0);
        Due.due("TIES 5 + 6 + 18 + 2", x.tells(0, 0, 2), 31);
        Due.due("PAYS 5 + 6 + 2 + 1", x.tells(0, 0, 3), 14);
        x.undo();
        Due.due("tie(2, 1)", x.tie(2, 1), 17);
        Due.due("TIES 5 + 18 + 2", x.tells(0, 0, 2), 25);
        Due.due("tie(1, 0)", x.tie(1, 0), 18 + 1 + 5);
        // It has 8 by size - weight, then a 9th or more, and is at 19.
        Due.due("PAYS 10 + 2 + 1", x.tells(0, 0, 3), 13);
        Due.due("LIFT 9 - 2", x.tells(0, 0, 0), 7);
        x.hours(1);
        Due.due("high", x.load(1, 4), 8);
        Due.due("X", x.load(1, 0), 19);
        x.hours(1);
        Due.due("STORED", x.load(1, 3), 2);
        // PAYS as the hour began: hour 1, up 2, weight 1, price 1.
        Due.due("earned", x.count(8), 1 + 10 + 1 + 1);
        Due.due("TIES hour 2, stored 1", x.tells(0, 0, 2), 18 + 2 + 2 + 9);
        SilkRise held = Due.with("load a 0 9 99; silk s 1 0; wind = 0 - 5; ties = 100; pays = 0 - 1;");
        Due.due("WIND is held", held.tells(0, 0, 1), -3);
        Due.due("TIES is held", held.tells(0, 0, 2), 99);
        Due.due("PAYS is held", held.tells(0, 0, 3), 0);
        Due.due("LIFT alone", held.tells(0, 0, 0), -8);
        held = Due.with("load a 0 9 99; silk s 1 0; wind = 5; ties = 0 - 1; pays = 100;");
        Due.due("WIND is held", held.tells(0, 0, 1), 3);
        Due.due("TIES is held", held.tells(0, 0, 2), 0);
        Due.due("PAYS is held", held.tells(0, 0, 3), 99);
    }

    private static void eachVarOfEachLaw() {
        String[] laws = {"lift", "wind", "ties", "pays"};
        String[] vars = {"hour", "day", "size", "weight", "high", "across", "price", "up", "stored"};
        // At hour 54, two in the air, one STORED: of a LOAD at 11, WEIGHT 3, PRICE 7, by a SILK of SIZE 5, 0 high.
        int[][] due = {{6, 2, 5, 3, 0, 11, 0, 2, 1}, {6, 2, 0, 0, 0, 11, 0, 2, 1}, {6, 2, 5, 3, 0, 0, 0, 2, 1}, {6, 2, 0, 3, 0, 0, 7, 2, 1}};
        for (int law = 0; law < 4; law++) {
            for (int var = 0; var < 9; var++) {
                for (int more = 0; more < 2; more++) {
                    String told = (law == 0 ? "lift = if hour < 1 then 9 else " : "lift = 9; " + laws[law] + " = ") + "if " + vars[var] + " < "
                            + (due[law][var] + more) + " then 2 else 1;";
                    SilkRise x = Due.with("load a 5 1 1; load b 5 1 1; load c 5 1 1; load d 11 3 7; silk s 9 0; silk t 9 0; silk u 5 0;"
                            + "hook h 5 5 1; rim 9;" + told);
                    x.tie(0, 0);
                    x.hours(54);
                    x.tie(1, 0);
                    x.tie(2, 1);
                    Due.due("up and stored", x.count(5) * 10 + x.count(6), 61);
                    Due.due(told, x.tells(3, 2, law), 1 + more);
                }
            }
        }
    }

    private static void longLaw() {
        SilkRise x = Due.with("load a 1 1 1; silk s 1 1; ties = " + "0+".repeat(192) + "7;");
        Due.due("a LAW of nearly 400 TOKENS", x.tells(0, 0, 2), 7);
        x = Due.with("load a 1 1 1; silk s 1 1;" + "ties=1;".repeat(90) + "pays=1+1*2-3+(4);ties=6;");
        Due.due("the last of many", x.tells(0, 0, 2), 6);
        Due.due("behind many", x.tells(0, 0, 3), 4);
    }

    private static void gustsNotTold() {
        SilkRise x = Due.with("gusts 100; seed 5;");
        Due.due("read()", Due.read(x, "gusts 50;"), 0);
        SilkRise none = Due.with("gusts 100; seed 9;");
        Due.due("read()", Due.read(none, "rim 7;"), 0);
        for (int hour = 0; hour < 200; hour++) {
            Due.due("a SEED not told, hour " + hour, x.count(14), lot(0, 4 * hour) < 50 ? 1 : 0);
            Due.due("GUSTS not told, hour " + hour, none.count(14), 0);
            x.hours(1);
            none.hours(1);
        }
    }

    /** LOT 100 of a SEED and a which, written out as the document tells it. */
    static int lot(int seed, int which) {
        int h = seed;
        h = (h ^ 113) * 1103515245 + 12345;
        h = h ^ (h >>> 15);
        h = (h ^ which) * 1103515245 + 12345;
        h = h ^ (h >>> 15);
        return (h >>> 1) % 100;
    }

    private static void gusts() {
        for (int seed = 0; seed < 9999; seed += 1111) {
            SilkRise x = Due.with("gusts 40; seed " + seed + ";");
            SilkRise none = Due.with("gusts 0; seed " + seed + ";");
            SilkRise all = Due.with("gusts 100; seed " + seed + ";");
            for (int hour = 0; hour < 40; hour++) {
                Due.due("GUST in hour " + hour + " by " + seed, x.count(14), lot(seed, 4 * hour) < 40 ? 1 : 0);
                Due.due("no GUST", none.count(14), 0);
                Due.due("GUST in each", all.count(14), 1);
                x.hours(1);
                none.hours(1);
                all.hours(1);
            }
        }
    }
}
