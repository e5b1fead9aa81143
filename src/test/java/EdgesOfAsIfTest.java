import java.util.function.IntToLongFunction;

/** Promises 20 to 33 and ==== 3: each sentence that names a bound; and what is AS IF against what is told so. */
public final class EdgesOfAsIfTest {
    private static final Checks CHECKS = new Checks();
    private static final int LEAST = Integer.MIN_VALUE;
    private static final int MOST = Integer.MAX_VALUE;
    private static final int SHIFT = 100000;
    private static final long MOST_LONG = Long.MAX_VALUE;
    private static final String ALWAYS = " cycle 1 open 0 to 1 cars 0 serve 1;";

    /** Towns without START and splits: some with THE END by all that is tried, some by none, some by a few. */
    private static final String[] TOWNS = {
        "road 100;speed 10;gap 2;column 5x4;",
        "road 100;speed 10;gap 2;cross 30 wide 10 cycle 10 open 0 to 2 cars 3 serve 2;column 3x4;",
        "road 100;speed 10;gap 2;cross 30 wide 10 cycle 10 open 0 to 2 cars 3 serve 2;column 5x4;",
        "road 90;speed 6;gap 1;cross 20 wide 4 cycle 13 open 2 to 6 cars 2 serve 1;cross 60 wide 8 cycle 17 open 4 to 11 cars 1 serve 2;column 5x5;",
        "road 90;speed 6;gap 1;cross 20 wide 4 cycle 60 open 30 to 34 cars 1 serve 1;column 4x5;broken 3 at 9 for 8;",
        "road 150;speed 7;gap 0;cross 9 wide 9 cycle 25 open 20 to 25 cars 4 serve 3;column 2x3;column 3x6;gather 70;broken 2 at 3 for 30;",
        "road 1000;speed 1;gap 0;cross 500 wide 50 cycle 1 open 0 to 1 cars 1 serve 1;column 5x1;broken 4 at 3 for 500;broken 4 at 503 for 474;",
        "road 1000;speed 1;gap 50;column 5x30;broken 0 at 0 for 500;broken 0 at 500 for 500;",
        "road 100;speed 10;gap 2;cross 99 wide 1 cycle 200 open 199 to 200 cars 99 serve 20;column 5x4;",
        // by one split, by two of them, as good by some as by others
        "road 118;speed 13;gap 2;cross 31 wide 2 cycle 18 open 16 to 18 cars 2 serve 1;column 5x4;",
        "road 112;speed 8;gap 1;cross 23 wide 9 cycle 9 open 7 to 9 cars 2 serve 1;column 5x2;",
        "road 111;speed 11;gap 2;cross 30 wide 6 cycle 26 open 15 to 17 cars 2 serve 1;column 5x4;",
        "road 10;speed 50;gap 0;column 2x1;",
        "road 10;speed 50;gap 0;column 1x1;",
    };

    private static void due(String call, long got, long want) {
        CHECKS.due(call, got, want);
    }

    private static void taken(String name, int least, int most, long code, IntToLongFunction call) {
        for (int n : new int[] {least, most}) {
            due(name + " of " + n + " is taken", call.applyAsLong(n) == code ? 0 : 1, 1);
        }
        for (int n : new int[] {least - 1, most + 1, LEAST, MOST}) {
            due(name + " of " + n, call.applyAsLong(n), code);
        }
    }

    private static ConvoyTown thirty() {
        StringBuilder text = new StringBuilder("road1000;speed9;gap0;");
        for (int i = 0; i < 10; i++) {
            text.append("cross").append(99 * i).append("wide9cycle99open0to98cars1serve1;");
        }
        return Checks.told(text + "column30x1;");
    }

    /** 21, 22: n TICKS (0 to 2000). */
    private static void whereAndWaits() {
        ConvoyTown x = thirty();
        taken("where(n, 0)", 0, 29, -2, n -> x.where(n, 0));
        taken("where(29, n)", 0, 2000, -3, n -> x.where(29, n));
        taken("waits()", 0, 2000, -3, n -> x.waits(n));
        due("where(30, 2001)", x.where(30, 2001), -2);
        due("waits(0)", x.waits(0), 0);
        due("waits(2000) without LINES", new ConvoyTown().waits(2000), 0);
        due("where(0, 0) without CARS", new ConvoyTown().where(0, 0), -2);
        // what the RUN itself shows, behind each number of TICKS
        for (String text : TOWNS) {
            ConvoyTown run = Checks.told(text);
            int gone = 0;
            for (int n : new int[] {0, 1, 2, 7, 30, 31, 99, 503, 976, 977, 1477, 1999, 2000}) {
                run.go(n - gone);
                gone = n;
                int all = 0;
                for (int i = 0; i < run.count(4); i++) {
                    all += run.crossing(i, 1);
                }
                due(text + " waits(" + n + ")", run.waits(n), all);
                for (int car = 0; car < run.count(5); car++) {
                    due(text + " where(" + car + ", " + n + ")", run.where(car, n), run.car(car, 0));
                }
            }
        }
    }

    /** 20: THE END, as the RUN itself shows it. 29: held, in all as many TICKS. */
    private static void ends() {
        for (String text : TOWNS) {
            ConvoyTown x = Checks.told(text);
            int end = x.end();
            int ticks = end < 0 ? 2000 : end;
            if (ticks > 0) {
                x.go(ticks - 1);
                due(text + " not all are OUT", x.count(10) < x.count(5) ? 1 : 0, 1);
                x.go(1);
            }
            due(text + " all are OUT", x.count(10) == x.count(5) ? 1 : 0, end < 0 ? 0 : 1);
            for (int car = 0; car < x.count(5); car++) {
                int all = 0;
                for (int why = 0; why <= 6; why++) {
                    all += x.held(car, why);
                }
                due(text + " held in all", all, ticks);
            }
        }
        ConvoyTown x = thirty();
        taken("held(n, 0)", 0, 29, -2, n -> x.held(n, 0));
        taken("held(29, n)", 0, 6, -2, n -> x.held(29, n));
        due("held(0, 0) without CARS", new ConvoyTown().held(0, 0), -2);
    }

    /** 23: behind 0, 1, .. TICKS, up to THE END (without one up to 2000). -5; -2: what. */
    private static void stretch() {
        ConvoyTown x = thirty();
        taken("stretch()", 0, 1, -2, n -> x.stretch(n));
        for (int what : new int[] {-1, 0, 1, 2, LEAST, MOST}) {
            due("stretch(" + what + ") without CARS", new ConvoyTown().stretch(what), -5);
        }
        due("one CAR", Checks.told("column 1x30;").stretch(0), 30);
        due("one CAR, first", Checks.told("column 1x30;").stretch(1), 0);
        // CAR 1 stays with its TAIL at -1 from TICK 1000 on; CAR 0 goes on by a meter each TICK up to 1001
        ConvoyTown last = Checks.told("road 1000;speed 1;start 999;gap 0;column 2x1;broken 1 at 1000 for 500;broken 1 at 1500 for 500;");
        due("at 2000, no END", last.end(), -1);
        due("at 2000", last.stretch(0), 1002);
        due("at 2000, first", last.stretch(1), 2000);
        // the most is there for two TICKS: behind how many first
        ConvoyTown twice = Checks.told("road 100;speed 10;gap 0;column 2x5;broken 1 at 3 for 2;broken 0 at 5 for 1;");
        due("as wide as it gets", twice.stretch(0), 30);
        due("first", twice.stretch(1), 5);
    }

    /** 24: NEED is no more than b less a (or a is 0 and b CYCLE: then any); a CAR by itself can't. */
    private static void fewest() {
        due("fewest() without CARS", new ConvoyTown().fewest(), -5);
        // by 10 a TICK, OPEN for one: 9 meters at most beside WIDE 1
        String one = "speed 10;cross 5 wide 1 cycle 9 open 3 to 4 cars 0 serve 1;";
        due("one CAR just can", Checks.told(one + "column 1x9;").fewest(), 0);
        due("one CAR can't", Checks.told(one + "column 1x10;").fewest(), -1);
        due("the last can't", Checks.told(one + "column 3x4;column 1x10;").fewest(), -1);
        due("the first can't", Checks.told(one + "column 1x10;column 3x4;").fewest(), -1);
        due("two just can", Checks.told(one + "gap 1;column 2x4;").fewest(), 0);
        due("two can't, by a meter", Checks.told(one + "gap 2;column 2x4;").fewest(), 1);
        due("two by two", Checks.told(one + "gap 1;column 30x4;").fewest(), 14);
        due("each by itself", Checks.told(one + "gap 2;column 30x4;").fewest(), 29);
        due("as long as it can be, from the head", Checks.told(one + "gap 0;column 1x4;column 1x5;column 1x5;column 1x4;").fewest(), 1);
        due("any", Checks.told("speed 1;gap 50;cross 0 wide 50 cycle 200 open 0 to 200 cars 0 serve 1;column 30x30;").fewest(), 0);
        due("not any: b is CYCLE less 1", Checks.told("speed 1;gap 50;cross 0 wide 50 cycle 200 open 0 to 199 cars 0 serve 1;column 30x30;").fewest(), 14);
        due("not any: a is 1", Checks.told("speed 1;gap 50;cross 0 wide 50 cycle 200 open 1 to 200 cars 0 serve 1;column 30x30;").fewest(), 14);
        due("no CROSSING", Checks.told("column 30x30;").fewest(), 0);
        due("in place of those told", Checks.told("column 3x3;split 0;split 1;").fewest(), 0);
    }

    /** THE END of a town with these splits told (NONE: not that one). */
    private static int endBy(String text, int first, int second) {
        String one = first < 0 ? "" : "split " + first + ";";
        String two = second < 0 ? "" : "split " + second + ";";
        return Checks.told(text + one + two).end();
    }

    /** 25: sets of k splits or fewer, the least THE END, of like ones the fewest, of these the first. */
    private static void best() {
        int[] likes = new int[2];
        for (String text : TOWNS) {
            ConvoyTown x = Checks.told(text);
            int cars = x.count(5);
            int[] best = {endBy(text, -1, -1), -1, -1};
            bestIs(text, x, 0, best);
            int[] found = best.clone();
            for (int one = 0; one < cars - 1; one++) {
                int end = endBy(text, one, -1);
                likes[0] += end >= 0 && end == found[0] && found[1] >= 0 ? 1 : 0;
                found = isSooner(end, found[0]) ? new int[] {end, one, -1} : found;
            }
            bestIs(text, x, 1, found);
            for (int one = 0; one < cars - 1; one++) {
                for (int two = one + 1; two < cars - 1; two++) {
                    int end = endBy(text, one, two);
                    likes[1] += end >= 0 && end == found[0] && found[2] >= 0 ? 1 : 0;
                    found = isSooner(end, found[0]) ? new int[] {end, one, two} : found;
                }
            }
            bestIs(text, x, 2, found);
            // in place of those told
            bestIs(text, cars > 1 ? Checks.told(text + "split 0;") : x, 2, found);
        }
        due("there are like ones of one split", likes[0] > 0 ? 1 : 0, 1);
        due("there are like ones of two", likes[1] > 0 ? 1 : 0, 1);
        ConvoyTown x = thirty();
        taken("best(n, 0)", 0, 2, -3, n -> x.best(n, 0));
        taken("best(0, n)", 0, 2, -2, n -> x.best(0, n));
        due("best(3, 3)", x.best(3, 3), -3);
        due("best(3, 3) without CARS", new ConvoyTown().best(3, 3), -5);
        due("best(0, 0) without CARS", new ConvoyTown().best(0, 0), -5);
    }

    private static boolean isSooner(int end, int than) {
        return end >= 0 && (than < 0 || end < than);
    }

    private static void bestIs(String text, ConvoyTown x, int k, int[] want) {
        for (int what = 0; what <= 2; what++) {
            due(text + " best(" + k + ", " + what + ")", x.best(k, what), want[what]);
        }
    }

    /** 26, 28: of all START 0 to n (0 to 60). */
    private static void starts() {
        int none = 0;
        int some = 0;
        for (String text : TOWNS) {
            ConvoyTown x = Checks.told(text + "start 500;");
            int best = -1;
            int least = -1;
            int smooth = -1;
            for (int n = 0; n <= 60; n++) {
                ConvoyTown by = Checks.told(text + "start " + n + ";");
                int end = by.end();
                if (end >= 0 && (best < 0 || by.waits(end) < least)) {
                    best = n;
                    least = by.waits(end);
                }
                boolean isSmooth = end >= 0;
                for (int car = 0; car < by.count(5); car++) {
                    isSmooth &= by.held(car, 5) == 0;
                }
                smooth = smooth < 0 && isSmooth ? n : smooth;
                due(text + " bestStart(" + n + ", 0)", x.bestStart(n, 0), best);
                due(text + " bestStart(" + n + ", 1)", x.bestStart(n, 1), least);
                due(text + " smooth(" + n + ")", x.smooth(n), smooth);
            }
            none += best < 0 ? 1 : 0;
            some += smooth > 0 ? 1 : 0;
        }
        due("there are some without END", none > 0 ? 1 : 0, 1);
        due("there are some smooth later", some > 0 ? 1 : 0, 1);
        ConvoyTown x = thirty();
        taken("bestStart(n, 0)", 0, 60, -3, n -> x.bestStart(n, 0));
        taken("bestStart(60, n)", 0, 1, -2, n -> x.bestStart(60, n));
        taken("smooth(n)", 0, 60, -3, n -> x.smooth(n));
        // THE END 2000 by START 0 alone, and 2001
        ConvoyTown just = Checks.told("road 1000;speed 1;gap 50;column 13x26;column 1x12;start 9;");
        ConvoyTown longer = Checks.told("road 1000;speed 1;gap 50;column 13x26;column 1x13;start 9;");
        for (int n : new int[] {0, 1, 60}) {
            due("END 2000: bestStart(" + n + ", 0)", just.bestStart(n, 0), 0);
            due("END 2000: bestStart(" + n + ", 1)", just.bestStart(n, 1), 0);
            due("END 2000: smooth(" + n + ")", just.smooth(n), 0);
            due("END 2001: bestStart(" + n + ", 0)", longer.bestStart(n, 0), -1);
            due("END 2001: bestStart(" + n + ", 1)", longer.bestStart(n, 1), -1);
            due("END 2001: smooth(" + n + ")", longer.smooth(n), -1);
        }
        due("bestStart(61, 2)", x.bestStart(61, 2), -3);
        due("bestStart(0, 0) without CARS", new ConvoyTown().bestStart(0, 0), -5);
        due("bestStart(61, 2) without CARS", new ConvoyTown().bestStart(61, 2), -5);
        due("smooth(0) without CARS", new ConvoyTown().smooth(0), -5);
        due("smooth(61) without CARS", new ConvoyTown().smooth(61), -5);
    }

    /** 27: told 100,000 more; NONE: one of both is none; -2; -3. */
    private static void harm() {
        ConvoyTown x = thirty();
        taken("harm(n, 0, 1)", 0, 29, -2, n -> x.harm(n, 0, 1));
        taken("harm(29, n, 1)", 0, 1999, -3, n -> x.harm(29, n, 1));
        taken("harm(29, 0, n)", 1, 500, -3, n -> x.harm(29, 0, n));
        due("harm(30, 2000, 0)", x.harm(30, 2000, 0), -2);
        due("harm(0, 0, 1) without CARS", new ConvoyTown().harm(0, 0, 1), -2);
        int[][] tries = {{0, 0, 1}, {0, 0, 500}, {0, 1999, 500}, {0, 3, 9}, {1, 3, 9}, {4, 3, 9}, {4, 0, 1}, {3, 20, 40}};
        for (String text : TOWNS) {
            int end = Checks.told(text).end();
            for (int[] t : tries) {
                ConvoyTown told = Checks.told(text);
                if (t[0] < told.count(5)) {
                    int got = told.harm(t[0], t[1], t[2]);
                    told.broken(t[0], t[1], t[2]);
                    int by = told.end();
                    due(text + " harm(" + t[0] + ", " + t[1] + ", " + t[2] + ")", got, end < 0 || by < 0 ? -1 : SHIFT + by - end);
                }
            }
        }
        // no END without, -3 ahead of NONE
        ConvoyTown none = Checks.told("road 1000;speed 1;gap 50;column 30x30;");
        due("harm(), no END", none.harm(0, 0, 1), -1);
        due("harm(), no END, no TICK", none.harm(0, 2000, 1), -3);
        due("harm(), no END, no CAR", none.harm(30, 0, 1), -2);
        // by going on later CAR 0 comes CLOSED to the GATHER, and CAR 1 loses no meter: END 2000 with, none without
        String sooner = "road 1000;speed 2;gap 0;start 999;column 2x1;gather 11;broken 1 at 999 for 500;";
        due("END none", Checks.told(sooner).end(), -1);
        due("END by a breakdown", Checks.told(sooner + "broken 0 at 999 for 500;").end(), 2000);
        due("harm(), no END but with it", Checks.told(sooner).harm(0, 999, 500), -1);
        // the same a TICK ahead: END 2000 without, 1999 with
        String both = sooner.replace("start 999", "start 998").replace("broken 1 at 999", "broken 1 at 998");
        due("harm(), it is sooner", Checks.told(both).harm(0, 998, 500), SHIFT - 1);
        // up to 2000, and beyond
        ConvoyTown edge = Checks.told("road 1000;speed 1;start 998;column 1x1;");
        due("END", edge.end(), 1999);
        due("harm() up to 2000", edge.harm(0, 1000, 1), SHIFT + 1);
        due("harm() beyond", edge.harm(0, 1000, 2), -1);
        due("harm() ahead of START", edge.harm(0, 498, 500), SHIFT);
        due("harm() in its first TICK", edge.harm(0, 499, 500), SHIFT + 1);
        due("harm() in its last TICK", edge.harm(0, 1998, 1), SHIFT + 1);
        due("harm() behind it", edge.harm(0, 1999, 1), SHIFT);
    }

    /** 30: the least V (1 to 50) by which THE END is n (0 to 2000) or less. */
    private static void slowest() {
        ConvoyTown x = thirty();
        taken("slowest()", 0, 2000, -3, n -> x.slowest(n));
        due("slowest(0) without CARS", new ConvoyTown().slowest(0), -5);
        due("slowest(2001) without CARS", new ConvoyTown().slowest(2001), -5);
        for (String text : TOWNS) {
            String rest = text.replaceFirst("speed [0-9]*;", "");
            int[] ends = new int[51];
            for (int v = 1; v <= 50; v++) {
                ends[v] = Checks.told(rest + "speed " + v + ";").end();
            }
            ConvoyTown told = Checks.told(text);
            for (int n : new int[] {0, 1, 2, 3, 9, 12, 13, 20, 30, 60, 100, 203, 204, 1000, 1999, 2000}) {
                int least = -1;
                for (int v = 50; v >= 1; v--) {
                    least = ends[v] >= 0 && ends[v] <= n ? v : least;
                }
                due(text + " slowest(" + n + ")", told.slowest(n), least);
            }
        }
        // 2000 meters in 2000 TICKS, and one more
        due("2000 by 1", Checks.told("road 1000;gap 50;column 13x26;column 1x12;").slowest(2000), 1);
        due("2001 not by 1", Checks.told("road 1000;gap 50;column 13x26;column 1x13;").slowest(2000), 2);
        due("50 by 50", Checks.told("road 49;column 1x1;").slowest(1), 50);
        due("51 not by 50", Checks.told("road 50;column 1x1;").slowest(1), -1);
    }

    /** 31: the most TICKS side by side in which a CROSSING is HELD. */
    private static void longest() {
        ConvoyTown x = thirty();
        taken("longest()", 0, 9, -2, n -> x.longest(n));
        due("longest(0) of none", new ConvoyTown().longest(0), -2);
        due("longest(0) without CARS", Checks.told("cross 0 wide 1" + ALWAYS).longest(0), 0);
        // over it in one TICK: never HELD as one begins
        due("longest(0), over it", Checks.told("speed 50;cross 10 wide 10" + ALWAYS + "column 1x30;").longest(0), 0);
        due("longest(0), by a meter", Checks.told("speed 50;cross 11 wide 10" + ALWAYS + "column 1x30;").longest(0), 1);
        // from TICK 1 on, and no END
        String never = "road 1000;speed 1;cross 0 wide 50" + ALWAYS + "column 1x1;broken 0 at 1 for 500;broken 0 at 501 for 500;"
            + "broken 0 at 1001 for 500;broken 0 at 1501 for 499;";
        due("longest(0), no END", Checks.told(never).end(), -1);
        due("longest(0), no END", Checks.told(never).longest(0), 1999);
        // HELD in TICK 4 by the one, in 5 by the other: side by side; a meter more of gap, and it isn't
        due("two side by side", Checks.told("road 100;speed 10;gap 5;cross 30 wide 10" + ALWAYS + "column 2x5;split 0;").longest(0), 2);
        due("two, not side by side", Checks.told("road 100;speed 10;gap 15;cross 30 wide 10" + ALWAYS + "column 2x5;split 0;").longest(0), 1);
    }

    /** 32: who go so many meters (1 to 50) a TICK. */
    private static void marshals() {
        ConvoyTown x = thirty();
        taken("marshals()", 1, 50, -3, n -> x.marshals(n));
        due("marshals(1) without LINES", new ConvoyTown().marshals(1), 0);
        due("marshals(0) without LINES", new ConvoyTown().marshals(0), -3);
        // one CAR, HELD in TICK 4 and in that in which its FRONT is 10 above the other P
        int[][] rows = {{40, 10, 50, -1}, {50, 20, 20, 1}, {60, 30, 15, 2}, {70, 40, 14, 3}, {80, 50, 13, 4}, {90, 60, 12, 5}};
        for (int[] row : rows) {
            ConvoyTown y = Checks.told("road 200;speed 10;cross 30 wide 10" + ALWAYS + "cross " + row[0] + " wide 10" + ALWAYS + "column 1x5;");
            String name = row[1] + " meters in " + (row[3] < 0 ? 0 : row[3]) + " TICKS";
            due(name + " by " + row[2], y.marshals(row[2]), row[3] < 0 ? 2 : 1);
            due(name + " by " + (row[2] - 1), y.marshals(row[2] - 1), 2);
            due(name + " by 50", y.marshals(50), row[3] < 0 ? 2 : 1);
            due(name + " by 1", y.marshals(1), 2);
        }
        // 30 meters in 30 TICKS, in 29
        String slow = "road 200;speed 10;cross 30 wide 10" + ALWAYS + "cross 60 wide 10" + ALWAYS + "column 1x5;";
        due("30 meters in 30 TICKS by 1", Checks.told(slow + "broken 0 at 5 for 28;").marshals(1), 1);
        due("30 meters in 29 TICKS by 1", Checks.told(slow + "broken 0 at 5 for 27;").marshals(1), 2);
        due("30 meters in 29 TICKS by 2", Checks.told(slow + "broken 0 at 5 for 27;").marshals(2), 1);
        // GUARDED from the first TICK up to the last one: by the other SECTION, that was BROKEN, once more
        due("up to the last one", Checks.told(slow + "column 1x5;split 0;broken 1 at 0 for 90;").marshals(50), 2);
        // back to the first: HELD in TICK 2 by CAR 0 the one at 99, in TICK 21 by CAR 1 the one at 45; each goes over the other
        String back = "road 200;speed 50;gap 3;cross 45 wide 1" + ALWAYS + "cross 99 wide 1" + ALWAYS + "column 2x1;split 0;broken 1 at 0 for 20;";
        due("54 meters back in 18 TICKS by 3", Checks.told(back).marshals(3), 1);
        due("54 meters back in 18 TICKS by 2", Checks.told(back).marshals(2), 2);
        // one for ten of them: 90 meters in 8 TICKS
        StringBuilder chain = new StringBuilder("road1000;");
        for (int i = 0; i < 10; i++) {
            chain.append("cross").append(90 * i + 30).append("wide10cycle1open0to1cars0serve1;");
        }
        due("ten in a row by 12", Checks.told(chain + "column1x5;").marshals(12), 1);
        // 180 meters in 17 TICKS: two who go by turns; by 10 never in time
        due("ten in a row by 11", Checks.told(chain + "column1x5;").marshals(11), 2);
        due("ten in a row by 10", Checks.told(chain + "column1x5;").marshals(10), 10);
        // two HELD in TICKS 4 to 6, two others in 16 to 18: 115, twice 120 and 125 meters in 9 TICKS
        ConvoyTown two = Checks.told("road 300;cross 30 wide 5" + ALWAYS + "cross 35 wide 5" + ALWAYS + "cross 150 wide 5" + ALWAYS
            + "cross 155 wide 5" + ALWAYS + "column 1x30;");
        due("two and two by 50", two.marshals(50), 2);
        due("two and two by 14", two.marshals(14), 2);
        due("two and two by 13", two.marshals(13), 3);
        due("two and two by 12", two.marshals(12), 4);
        // both that are HELD in TICKS 4 to 6 can be left for the one in 16 to 18, but one is enough there
        ConvoyTown one = Checks.told("road 300;cross 30 wide 5" + ALWAYS + "cross 35 wide 5" + ALWAYS + "cross 150 wide 5" + ALWAYS
            + "column 1x30;");
        due("two for one by 50", one.marshals(50), 2);
        due("two for one by 14", one.marshals(14), 2);
        due("two for one by 12", one.marshals(12), 3);
        // HELD in TICK 4 at 30, in 7 at 60, in 16 at 150 and at 159: by 12 who stood at 60 can go to 150 alone,
        // 90 meters in 8 TICKS, and who stood at 30 to both, 129 meters in 11; he has to leave 150 to the other
        ConvoyTown other = Checks.told("road 300;speed 10;cross 30 wide 10" + ALWAYS + "cross 60 wide 10" + ALWAYS
            + "cross 150 wide 9" + ALWAYS + "cross 159 wide 5" + ALWAYS + "column 1x5;");
        due("one goes elsewhere, by 12", other.marshals(12), 2);
        due("one goes elsewhere, by 11 neither can", other.marshals(11), 3);
        due("one goes elsewhere, by 10 none can", other.marshals(10), 4);
        // no END: HELD up to TICK 1999
        ConvoyTown never = Checks.told(slow + "column 1x5;split 0;broken 1 at 5 for 500;broken 1 at 505 for 500;"
            + "broken 1 at 1005 for 500;broken 1 at 1505 for 500;");
        due("no END", never.end(), -1);
        due("no END: HELD by CAR 1", never.longest(0), 1996);
        due("no END", never.marshals(50), 2);
        // ten of them at once: LEAD is over all, and the last CAR still behind them
        StringBuilder ten = new StringBuilder("road100;speed50;gap50;");
        for (int i = 0; i < 10; i++) {
            ten.append("cross").append(i).append("wide1cycle1open0to1cars0serve1;");
        }
        due("ten at once", Checks.told(ten + "column3x30;").marshals(50), 10);
        due("none at all, each over in a TICK", Checks.told(ten + "column1x30;").marshals(1), 0);
    }

    /** 33: a, b 0 or more; GREAT: no long is so much; NONE: there is no END. */
    private static void price() {
        // END 2: one comes in TICK 1 and WAITS
        ConvoyTown x = Checks.told("road 51;speed 50;cross 0 wide 1 cycle 1 open 0 to 1 cars 1 serve 20;column 1x1;");
        long half = 1L << 62;
        due("END", x.end(), 2);
        due("WAITS", x.waits(2), 1);
        long[][] rows = {
            {0, 0, 0}, {1, 0, 2}, {0, 1, 1}, {-1, 0, -3}, {0, -1, -3}, {Long.MIN_VALUE, 0, -3}, {0, Long.MIN_VALUE, -3},
            {half - 1, 0, MOST_LONG - 1}, {half - 1, 1, MOST_LONG}, {half - 1, 2, -6}, {half, 0, -6}, {half, half, -6},
            {0, MOST_LONG, MOST_LONG}, {1, MOST_LONG, -6}, {1, MOST_LONG - 2, MOST_LONG}, {1, MOST_LONG - 1, -6},
            {MOST_LONG, 0, -6}, {MOST_LONG, MOST_LONG, -6}, {MOST_LONG, -1, -3}, {-1, MOST_LONG, -3}, {half / 2, half, -6},
            {half / 2 - 1, half, MOST_LONG - 1},
        };
        for (long[] row : rows) {
            due("price(" + row[0] + ", " + row[1] + ")", x.price(row[0], row[1]), row[2]);
        }
        // 4 times 2^62 are 0 by wrap-around, 4 times 2^61 the least long
        ConvoyTown four = Checks.told("road 151;speed 50;column 1x1;");
        due("END", four.end(), 4);
        due("4 times 2^62", four.price(half, 0), -6);
        due("4 times 2^61", four.price(half / 2, 0), -6);
        due("4 times 2^61 less 1", four.price(half / 2 - 1, MOST_LONG), MOST_LONG - 3);
        ConvoyTown one = Checks.told("road 49;speed 50;column 1x1;");
        due("END 1: the most", one.price(MOST_LONG, MOST_LONG), MOST_LONG);
        due("without CARS: the most", new ConvoyTown().price(MOST_LONG, MOST_LONG), 0);
        due("without CARS: below 0", new ConvoyTown().price(0, -1), -3);
        ConvoyTown never = Checks.told("road 1000;speed 1;gap 50;column 30x30;");
        due("no END", never.price(0, 0), -1);
        due("no END: the most", never.price(MOST_LONG, MOST_LONG), -1);
        due("no END: below 0", never.price(-1, 0), -3);
    }

    public static void main(String[] args) {
        whereAndWaits();
        ends();
        stretch();
        fewest();
        best();
        starts();
        harm();
        slowest();
        longest();
        marshals();
        price();
        CHECKS.finish();
    }
}
