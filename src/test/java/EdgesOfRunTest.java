/** The document's 'Terms', ==== 2: each sentence that names a boundary, just ahead of it, at it and behind it. */
public final class EdgesOfRunTest {
    private static final Checks CHECKS = new Checks();
    private static final int SHIFT = 100000;

    private static void due(String call, long got, long want) {
        CHECKS.due(call, got, want);
    }

    /** One TICK after the other: FRONT of a CAR behind each, and its WHY. */
    private static void goes(String name, ConvoyTown x, int car, int[] fronts, int[] whys) {
        for (int i = 0; i < fronts.length; i++) {
            x.go(1);
            due(name + ": FRONT of CAR " + car + " behind TICK " + i, x.car(car, 0), SHIFT + fronts[i]);
            due(name + ": WHY of CAR " + car + " in TICK " + i, x.car(car, 3), whys[i]);
        }
    }

    /** A CAR's FRONT: as the RUN begins 0 of CAR 0, of each other one the TAIL of the one ahead less gap. */
    private static void fronts() {
        ConvoyTown close = Checks.told("gap 0;column 30x1;");
        ConvoyTown wide = Checks.told("gap 50;column 30x30;");
        for (int car = 0; car < 30; car++) {
            due("gap 0: FRONT of " + car, close.car(car, 0), SHIFT - car);
            due("gap 0: TAIL of " + car, close.car(car, 1), SHIFT - car - 1);
            due("gap 50: FRONT of " + car, wide.car(car, 0), SHIFT - 80 * car);
            due("gap 50: TAIL of " + car, wide.car(car, 1), SHIFT - 80 * car - 30);
            due("gap 50: WHY of " + car, wide.car(car, 3), -1);
            due("gap 50: where(" + car + ", 0)", wide.where(car, 0), SHIFT - 80 * car);
        }
    }

    /** OUT: TAIL is LENGTH or more. */
    private static void out() {
        ConvoyTown x = Checks.told("road 10;speed 1;column 1x1;");
        x.go(10);
        due("TAIL is LENGTH less 1", x.car(0, 1), SHIFT + 9);
        due("not OUT", x.car(0, 5), 0);
        due("none is OUT", x.count(10), 0);
        due("no EVENT", x.count(11), 0);
        x.go(1);
        due("TAIL is LENGTH", x.car(0, 1), SHIFT + 10);
        due("OUT", x.car(0, 5), 1);
        due("one is OUT", x.count(10), 1);
        due("WHY: it went V meters", x.car(0, 3), 3);
        due("an EVENT", x.event(0, 1), 10);
        due("END", x.end(), 11);
        x.go(1);
        due("OUT: it goes no further", x.car(0, 1), SHIFT + 10);
        due("WHY: it was OUT", x.car(0, 3), 0);
        ConvoyTown fast = Checks.told("road 10;speed 50;column 1x30;");
        fast.go(1);
        due("TAIL is more than LENGTH", fast.car(0, 1), SHIFT + 20);
        due("OUT by one TICK", fast.car(0, 5), 1);
        due("END", fast.end(), 1);
    }

    /** SECTIONS: CARS from the head, or from behind a split, up to the next split, or the end. EXTENT. */
    private static void sections() {
        due("SECTIONS without CARS", new ConvoyTown().count(6), 0);
        ConvoyTown one = Checks.told("gap 50;column 1x30;");
        int[] alone = {0, 0, 30, 30};
        ConvoyTown all = Checks.told("gap 50;column 30x30;");
        int[] whole = {0, 29, 30 * 30 + 29 * 50, 30 * 30 + 29 * 50};
        for (int what = 0; what < 4; what++) {
            due("one CAR: section(0, " + what + ")", one.section(0, what), alone[what]);
            due("all CARS: section(0, " + what + ")", all.section(0, what), whole[what]);
        }
        due("section(1, 0)", all.section(1, 0), -2);
        // a split behind the first, behind the last but one
        all.split(0);
        due("EXTENT of the first", all.section(0, 2), 30);
        due("EXTENT of the others", all.section(1, 2), 29 * 30 + 28 * 50);
        due("SECTION of CAR 1", all.car(1, 4), 1);
        all.split(28);
        due("the last CAR by itself", all.section(2, 0), 29);
        due("the last CAR by itself", all.section(2, 1), 29);
        due("EXTENT of the last", all.section(2, 2), 30);
        due("LAST of the midst", all.section(1, 1), 28);
        ConvoyTown close = Checks.told("gap 0;column 2x1;");
        due("gap 0: EXTENT", close.section(0, 2), 2);
    }

    /** NEED: (WIDE and EXTENT) by V, upwards. */
    private static void needs() {
        String ten = "speed 10;cross 0 wide 1 cycle 1 open 0 to 1 cars 0 serve 1;";
        due("9 meters", Checks.told(ten + "column 1x8;").need(0, 0), 1);
        due("10 meters", Checks.told(ten + "column 1x9;").need(0, 0), 1);
        due("11 meters", Checks.told(ten + "column 1x10;").need(0, 0), 2);
        due("20 meters", Checks.told(ten + "column 1x19;").need(0, 0), 2);
        due("21 meters", Checks.told(ten + "column 1x20;").need(0, 0), 3);
        due("the least", Checks.told("speed 50;cross 0 wide 1 cycle 1 open 0 to 1 cars 0 serve 1;column 1x1;").need(0, 0), 1);
        due("50 meters by 50", Checks.told("speed 50;cross 0 wide 49 cycle 1 open 0 to 1 cars 0 serve 1;column 1x1;").need(0, 0), 1);
        due("51 meters by 50", Checks.told("speed 50;cross 0 wide 50 cycle 1 open 0 to 1 cars 0 serve 1;column 1x1;").need(0, 0), 2);
        due("the most", Checks.told("speed 1;gap 50;cross 0 wide 50 cycle 1 open 0 to 1 cars 0 serve 1;column 30x30;").need(0, 0), 2400);
    }

    /** HELD by a SECTION whose LEAD's FRONT is above P, the TAIL of whose last CAR is below its end. */
    private static void held() {
        ConvoyTown x = Checks.told("road 10;speed 1;gap 0;cross 3 wide 2 cycle 1 open 0 to 1 cars 0 serve 1;column 2x1;");
        // FRONT of CAR 0 is 3 behind 3, 4 behind 4; TAIL of CAR 1 is -2 at first, 4 behind 6, 5 behind 7
        int[] holder = {-1, -1, -1, -1, 0, 0, 0, -1, -1};
        int[] ticks = {0, 0, 0, 0, 0, 1, 2, 3, 3};
        for (int t = 0; t < holder.length; t++) {
            due("HELD by, behind " + t, x.crossing(0, 4), holder[t]);
            due("TICKS in which it was HELD, behind " + t, x.crossing(0, 5), ticks[t]);
            x.go(1);
        }
        due("longest(0)", x.longest(0), 3);
        // at 0, where CAR 0 stands as the RUN begins; up to LENGTH, where it is OUT
        ConvoyTown ends = Checks.told("road 10;speed 1;cross 0 wide 1 cycle 1 open 0 to 1 cars 0 serve 1;"
            + "cross 9 wide 1 cycle 1 open 0 to 1 cars 0 serve 1;column 1x1;");
        due("FRONT at P 0: not HELD", ends.crossing(0, 4), -1);
        ends.go(1);
        due("FRONT above P 0: HELD", ends.crossing(0, 4), 0);
        ends.go(1);
        due("TAIL at its end: not HELD", ends.crossing(0, 4), -1);
        ends.go(8);
        due("FRONT above P: HELD", ends.crossing(1, 4), 0);
        ends.go(1);
        due("OUT: not HELD", ends.crossing(1, 4), -1);
        due("LEAVES ahead of OUT", ends.event(3, 0), 1);
        due("OUT behind it", ends.event(4, 0), 2);
        // by two SECTIONS at once the first is told, and then the other
        ConvoyTown two = Checks.told("road 100;speed 1;gap 0;cross 0 wide 50 cycle 1 open 0 to 1 cars 0 serve 1;column 2x1;split 0;");
        two.go(50);
        due("HELD by both", two.crossing(0, 4), 0);
        two.go(1);
        due("HELD by SECTION 1", two.crossing(0, 4), 1);
        two.go(1);
        due("HELD by none", two.crossing(0, 4), -1);
    }

    /** One on the cross street comes each cars TICKS (0: none), one of them can go each serve TICKS. */
    private static void streets() {
        int[][] due = {
            // cars, serve, then what 0 to 7 behind 2000 TICKS
            {0, 1, 0, 0, 0, 0, -1, 0, 0, 0},
            {0, 20, 0, 0, 0, 0, -1, 0, 0, 0},
            {1, 1, 0, 0, 2000, 1, -1, 0, 0, 0},
            // 1900 WAIT; the 100th came in TICK 99 and goes in 1980
            {1, 20, 1900, 1900000, 100, 1900, -1, 0, 0, 1881},
            {99, 1, 0, 0, 21, 1, -1, 0, 0, 0},
            // the k-th comes in 99 k, and goes k by 20 TICKS later
            {99, 20, 0, 190, 21, 1, -1, 0, 0, 19},
        };
        for (int[] row : due) {
            ConvoyTown x = Checks.told("cross 0 wide 1 cycle 1 open 0 to 1 cars " + row[0] + " serve " + row[1] + ";");
            x.go(2000);
            for (int what = 0; what <= 7; what++) {
                due("cars " + row[0] + " serve " + row[1] + ": crossing(0, " + what + ")", x.crossing(0, what), row[what + 2]);
            }
            due("cars " + row[0] + " serve " + row[1] + ": waits(2000)", x.waits(2000), row[3]);
        }
        // t can be divided by cars, by serve: just ahead of it, at it
        ConvoyTown x = Checks.told("cross 0 wide 1 cycle 1 open 0 to 1 cars 99 serve 20;");
        int[][] steps = {{0, 0, 0}, {1, 0, 1}, {99, 0, 1}, {100, 1, 1}, {101, 0, 2}, {198, 0, 2}, {199, 1, 2}, {200, 1, 2}, {201, 0, 3}};
        int gone = 0;
        for (int[] row : steps) {
            x.go(row[0] - gone);
            gone = row[0];
            due("how many WAIT behind " + gone, x.crossing(0, 0), row[1]);
            due("SERVED behind " + gone, x.crossing(0, 2), row[2]);
        }
    }

    /** Then, if it isn't HELD, one less WAITS; it is OVERRUN in t, if it is HELD and not OPEN in t. */
    private static void servedAndOverrun() {
        // NEED 2 is just what it is OPEN for: HELD as TICK 11 begins, not as 12 begins
        String just = "road 100;speed 10;cross 30 wide 10 cycle 20 open 10 to 12 cars 1 serve 1;column 1x5;";
        ConvoyTown x = Checks.told(just);
        x.go(20);
        int[] whole = {1, 9, 19, 2, -1, 1, 0, 1};
        // BROKEN there in TICK 11, in which it is HELD and OPEN; HELD in 12, too
        ConvoyTown y = Checks.told(just + "broken 0 at 11 for 1;");
        y.go(20);
        int[] late = {2, 1 + 8 * 2, 18, 3, -1, 2, 1, 2};
        for (int what = 0; what <= 7; what++) {
            due("just so: crossing(0, " + what + ")", x.crossing(0, what), whole[what]);
            due("a TICK later: crossing(0, " + what + ")", y.crossing(0, what), late[what]);
        }
        due("longest(0)", x.longest(0), 1);
        due("longest(0) a TICK later", y.longest(0), 2);
    }

    /** If t is START or more. */
    private static void starts() {
        for (int start : new int[] {0, 1, 999}) {
            ConvoyTown x = Checks.told("start " + start + ";column 1x1;");
            x.go(start);
            due("START " + start + ": FRONT", x.car(0, 0), SHIFT);
            due("START " + start + ": WHY", x.car(0, 3), start == 0 ? -1 : 1);
            x.go(1);
            due("START " + start + ": FRONT in it", x.car(0, 0), SHIFT + 10);
            due("START " + start + ": WHY in it", x.car(0, 3), 3);
            due("START " + start + ": held(0, 1)", x.held(0, 1), start);
        }
    }

    /** BROKEN from a TICK on for so many. */
    private static void brokens() {
        goes("for 1", Checks.told("column 1x1;broken 0 at 0 for 1;"), 0, new int[] {0, 10, 20}, new int[] {2, 3, 3});
        goes("from 1 on", Checks.told("column 1x1;broken 0 at 1 for 2;"), 0, new int[] {10, 10, 10, 20}, new int[] {3, 2, 2, 3});
        goes("side by side", Checks.told("column 1x1;broken 0 at 1 for 1;broken 0 at 2 for 1;"), 0,
            new int[] {10, 10, 10, 20}, new int[] {3, 2, 2, 3});
        goes("one in the other", Checks.told("column 1x1;broken 0 at 0 for 4;broken 0 at 1 for 1;"), 0,
            new int[] {0, 0, 0, 0, 10}, new int[] {2, 2, 2, 2, 3});
        goes("ahead of START", Checks.told("start 2;column 1x1;broken 0 at 0 for 3;"), 0,
            new int[] {0, 0, 0, 10}, new int[] {1, 1, 2, 3});
        String two = "gap 50;column 3x1;broken 0 at 0 for 2;broken 2 at 1 for 2;";
        goes("two CARS at once: the head", Checks.told(two), 0, new int[] {0, 0, 10, 20}, new int[] {2, 2, 3, 3});
        goes("two CARS at once: the last", Checks.told(two), 2, new int[] {-102, -102, -102, -92}, new int[] {6, 2, 2, 3});
        goes("two CARS at once: the other", Checks.told(two), 1, new int[] {-51, -51, -41, -31}, new int[] {6, 6, 3, 3});
        goes("OUT by then", Checks.told("road 10;speed 50;column 1x1;broken 0 at 1 for 500;"), 0,
            new int[] {50, 50}, new int[] {3, 0});
        ConvoyTown last = Checks.told("road 1000;speed 1;gap 0;column 2x1;broken 0 at 1999 for 500;broken 1 at 0 for 500;"
            + "broken 1 at 500 for 500;broken 1 at 1000 for 500;broken 1 at 1500 for 499;");
        last.go(1999);
        due("BROKEN up to TICK 1998", last.car(1, 0), SHIFT - 1);
        due("BROKEN up to TICK 1998", last.car(1, 3), 2);
        last.go(1);
        due("in TICK 1999 no more", last.car(1, 0), SHIFT);
        due("in TICK 1999 no more", last.car(1, 3), 3);
        due("OUT, and BROKEN in TICK 1999", last.car(0, 3), 0);
        ConvoyTown at1999 = Checks.told("road 1000;speed 1;start 999;gap 0;column 2x1;broken 0 at 1999 for 500;");
        at1999.go(1999);
        due("in TICK 1998", at1999.car(0, 0), SHIFT + 1000);
        at1999.go(1);
        due("BROKEN in TICK 1999", at1999.car(0, 0), SHIFT + 1000);
        due("BROKEN in TICK 1999", at1999.car(0, 3), 2);
    }

    /** Not beyond the TAIL of the CAR ahead (as it is by then) less gap, if that one isn't OUT. */
    private static void behind() {
        // CAR 0 is BROKEN in TICK 1: CAR 1 stays at its TAIL less gap; in TICK 2 both go V
        goes("no gap is left", Checks.told("gap 3;column 2x4;broken 0 at 1 for 1;"), 1,
            new int[] {3, 3, 13}, new int[] {3, 6, 3});
        // CAR 1 is 10 behind: it gets up to CAR 0 just by V meters, then no further
        goes("just V meters", Checks.told("gap 3;column 2x4;broken 1 at 0 for 1;broken 0 at 1 for 2;"), 1,
            new int[] {-7, 3, 3}, new int[] {2, 3, 6});
        // CAR 0 gets to 15 by 5 meters, and so does CAR 1 behind it
        goes("as far as it can", Checks.told("gap 3;cross 15 wide 1 cycle 200 open 199 to 200 cars 0 serve 1;column 2x4;"), 1,
            new int[] {3, 8, 8}, new int[] {3, 6, 6});
        // CAR 0 is OUT behind TICK 1 with its TAIL at 15, and stays there; CAR 1 goes on over it
        goes("ahead is OUT", Checks.told("road 12;gap 0;column 2x5;"), 1,
            new int[] {5, 15, 25}, new int[] {3, 3, 3});
        // not OUT, by one meter: CAR 0 is BROKEN with its TAIL at 19
        goes("ahead is not yet OUT", Checks.told("road 20;gap 0;column 1x1;column 1x5;broken 0 at 2 for 2;"), 1,
            new int[] {9, 19, 19, 19, 29}, new int[] {3, 3, 6, 6, 3});
    }

    /** A LEAD not beyond P of a CROSSING (if its FRONT is P or less) that it may not ENTER. */
    private static void atCrossings() {
        String shut = "cycle 200 open 199 to 200 cars 0 serve 1;";
        goes("P is where it stands", Checks.told("cross 0 wide 1 " + shut + "column 1x1;"), 0,
            new int[] {0, 0}, new int[] {5, 5});
        goes("P is a meter ahead", Checks.told("cross 1 wide 1 " + shut + "column 1x1;"), 0,
            new int[] {1, 1}, new int[] {5, 5});
        goes("P is V less 1 ahead", Checks.told("cross 9 wide 1 " + shut + "column 1x1;"), 0,
            new int[] {9, 9}, new int[] {5, 5});
        goes("P is V ahead", Checks.told("cross 10 wide 1 " + shut + "column 1x1;"), 0,
            new int[] {10, 10}, new int[] {3, 5});
        // OPEN in TICK 0 only: in it LEAD gets a meter above P, and goes on over what isn't OPEN any more
        goes("FRONT is above P", Checks.told("cross 9 wide 1 cycle 200 open 0 to 1 cars 0 serve 1;column 1x9;"), 0,
            new int[] {10, 20}, new int[] {3, 3});
        goes("two side by side: the second", Checks.told("cross 5 wide 1 cycle 1 open 0 to 1 cars 0 serve 1;cross 6 wide 1 " + shut + "column 1x1;"), 0,
            new int[] {6, 6}, new int[] {5, 5});
        goes("two side by side: the first", Checks.told("cross 5 wide 1 " + shut + "cross 6 wide 1 cycle 1 open 0 to 1 cars 0 serve 1;column 1x1;"), 0,
            new int[] {5, 5}, new int[] {5, 5});
        // CAR 1 is no LEAD: it goes on over P in TICK 11, in which it isn't OPEN, as CAR 0 was BROKEN there
        ConvoyTown other = Checks.told("gap 0;cross 5 wide 5 cycle 50 open 0 to 2 cars 0 serve 1;column 2x5;broken 1 at 1 for 10;");
        other.go(11);
        due("no LEAD: it was BROKEN at P", other.car(1, 0), SHIFT + 5);
        other.go(1);
        due("no LEAD: it goes on", other.car(1, 0), SHIFT + 15);
        due("OVERRUN in TICKS 2 to 11", other.crossing(0, 6), 10);
        // with a split behind CAR 0 it is one, and has to wait
        other.split(0);
        other.go(12);
        due("LEAD: it stays at P", other.car(1, 0), SHIFT + 5);
        due("LEAD: a CROSSING holds it", other.car(1, 3), 5);
    }

    /** CAR 0 not beyond a GATHER (likewise) if the column isn't CLOSED: as the TICK began. */
    private static void gathers() {
        goes("one CAR is always CLOSED", Checks.told("column 1x1;gather 5;gather 10;"), 0, new int[] {10, 20}, new int[] {3, 3});
        goes("CLOSED all the time", Checks.told("column 2x1;gather 5;gather 10;"), 0, new int[] {10, 20}, new int[] {3, 3});
        String late = "gap 0;column 2x1;broken 1 at 0 for 2;";
        // CAR 1 stays at -1 in TICKS 0 and 1, then comes by 10 a TICK; CAR 0 goes V in TICK 0, as all is CLOSED
        // when that begins, and goes on in the TICK behind that in which CAR 1 comes up to it
        goes("a meter ahead", Checks.told(late + "gather 11;"), 0, new int[] {10, 11, 11, 11, 21}, new int[] {3, 4, 4, 4, 3});
        goes("where it stands", Checks.told(late + "gather 10;"), 0, new int[] {10, 10, 10, 20, 30}, new int[] {3, 4, 4, 3, 3});
        goes("V ahead", Checks.told(late + "gather 20;"), 0, new int[] {10, 20, 20, 20, 30, 40}, new int[] {3, 3, 4, 4, 3, 3});
        goes("behind it by a meter", Checks.told(late + "gather 9;"), 0, new int[] {10, 20, 30}, new int[] {3, 3, 3});
        goes("two of them: the first", Checks.told(late + "gather 12;gather 13;"), 0,
            new int[] {10, 12, 12, 12, 22}, new int[] {3, 4, 4, 4, 3});
        // CAR 0 at LENGTH isn't OUT
        goes("at LENGTH", Checks.told("road 20;" + late + "gather 20;"), 0, new int[] {10, 20, 20, 20, 30, 30}, new int[] {3, 3, 4, 4, 3, 0});
        // CAR 1 by itself: a GATHER holds CAR 0 alone
        goes("no GATHER for CAR 1", Checks.told("gap 0;column 3x1;split 0;broken 2 at 0 for 9;gather 50;"), 1,
            new int[] {9, 19, 29, 39, 49, 49}, new int[] {3, 3, 3, 3, 3, 6});
    }

    /** A LEAD may ENTER in t, if the CROSSING is OPEN in t and in all TICKS of its SECTION's NEED. */
    private static void entering() {
        // cycle, a, b, NEED, first TICK from 0 on, from 1 on
        int[][] due = {
            {10, 3, 7, 1, 3, 3}, {10, 3, 7, 4, 3, 3}, {10, 3, 7, 5, -1, -1},
            {10, 0, 9, 9, 0, 10}, {10, 0, 9, 10, -1, -1}, {10, 0, 9, 8, 0, 1},
            {10, 1, 10, 9, 1, 1}, {10, 1, 10, 10, -1, -1},
            {10, 0, 10, 10, 0, 1}, {10, 0, 10, 11, 0, 1}, {10, 0, 10, 31, 0, 1},
            {1, 0, 1, 1, 0, 1}, {1, 0, 1, 31, 0, 1}, {2, 1, 2, 1, 1, 1}, {2, 1, 2, 2, -1, -1}, {2, 0, 1, 1, 0, 2},
            {200, 199, 200, 1, 199, 199}, {200, 199, 200, 2, -1, -1}, {200, 0, 1, 1, 0, 200},
        };
        for (int[] row : due) {
            // NEED by speed 1 is 1 and LONG at the least; by speed 2 it is 1
            String cross = "cross 0 wide 1 cycle " + row[0] + " open " + row[1] + " to " + row[2] + " cars 0 serve 1;";
            String text = row[3] == 1 ? "speed 2;" + cross + "column 1x1;" : "speed 1;" + cross + "column 1x" + (row[3] - 1) + ";";
            ConvoyTown x = Checks.told(text);
            due("NEED of " + text, x.need(0, 0), row[3]);
            due("pass(0, 0, 0) of " + text, x.pass(0, 0, 0), row[4]);
            due("pass(0, 0, 1) of " + text, x.pass(0, 0, 1), row[5]);
            x.go(300);
            due("ENTERS of " + text, row[4] < 0 ? x.event(0, 0) : x.event(0, 1), row[4] < 0 ? -2 : row[4]);
            due("held(0, 5) of " + text, x.held(0, 5), row[4] < 0 ? 2000 : row[4]);
        }
    }

    /** WHY, the first of; of those that let it go just so far the least number; NONE ahead of any TICK. */
    private static void whys() {
        String shut = "cycle 200 open 199 to 200 cars 0 serve 1;";
        String late = "gap 0;column 2x1;split 0;broken 1 at 0 for 2;";
        goes("GATHER and CROSSING", Checks.told("cross 15 wide 1 " + shut + late + "gather 15;"), 0,
            new int[] {10, 15, 15, 15, 15}, new int[] {3, 4, 4, 4, 5});
        goes("CROSSING ahead of GATHER", Checks.told("cross 14 wide 1 " + shut + late + "gather 15;"), 0,
            new int[] {10, 14, 14}, new int[] {3, 5, 5});
        goes("GATHER ahead of CROSSING", Checks.told("cross 16 wide 1 " + shut + late + "gather 15;"), 0,
            new int[] {10, 15, 15, 15, 16}, new int[] {3, 4, 4, 4, 5});
        // CAR 0 is BROKEN with its TAIL at 10: CAR 1 comes from 0 up to 10
        String stands = "gap 0;column 1x10;column 1x1;split 0;broken 0 at 2 for 9;";
        goes("CROSSING and the CAR ahead", Checks.told("cross 10 wide 1 cycle 200 open 0 to 3 cars 0 serve 1;" + stands), 1,
            new int[] {0, 10, 10, 10}, new int[] {3, 3, 6, 5});
        // V meters bring it just there
        goes("V meters, and just there", Checks.told("cross 10 wide 1 " + shut + "gap 0;column 1x1;"), 0,
            new int[] {10, 10}, new int[] {3, 5});
        ConvoyTown none = Checks.told("column 1x1;");
        due("NONE ahead of any TICK", none.car(0, 3), -1);
        none.go(0);
        due("NONE behind go(0)", none.car(0, 3), -1);
        none.go(1);
        none.again();
        due("NONE as it begins anew", none.car(0, 3), -1);
    }

    private static void event(ConvoyTown x, int event, int[] due) {
        for (int what = 0; what < 4; what++) {
            due("event(" + event + ", " + what + ")", x.event(event, what), due[what]);
        }
    }

    /** EVENTS: FRONT gets above P; TAIL gets to its end, or beyond; as they come. */
    private static void events() {
        ConvoyTown x = Checks.told("road 10;speed 1;cross 3 wide 2 cycle 1 open 0 to 1 cars 0 serve 1;column 1x2;");
        int[] many = {0, 0, 0, 0, 1, 1, 1, 2, 2, 2, 2, 2, 3, 3};
        for (int t = 0; t < many.length; t++) {
            due("EVENTS behind " + t, x.count(11), many[t]);
            x.go(1);
        }
        event(x, 0, new int[] {0, 3, 0, 0});
        event(x, 1, new int[] {1, 6, 0, 0});
        event(x, 2, new int[] {2, 11, -1, 0});
        due("event(3, 0)", x.event(3, 0), -2);
        // TAIL gets beyond its end, and FRONT above the next P, in one TICK: by CROSSINGS
        ConvoyTown both = Checks.told("speed 10;cross 5 wide 2 cycle 1 open 0 to 1 cars 0 serve 1;"
            + "cross 10 wide 3 cycle 1 open 0 to 1 cars 0 serve 1;column 1x5;");
        both.go(2);
        event(both, 0, new int[] {0, 0, 0, 0});
        event(both, 1, new int[] {1, 1, 0, 0});
        event(both, 2, new int[] {0, 1, 1, 0});
        event(both, 3, new int[] {1, 1, 1, 0});
        // of one TICK by CARS: CAR 0 ENTERS the second, CAR 1 LEAVES the first
        ConvoyTown cars = Checks.told("speed 10;gap 0;cross 1 wide 4 cycle 1 open 0 to 1 cars 0 serve 1;"
            + "cross 15 wide 9 cycle 1 open 0 to 1 cars 0 serve 1;column 2x5;");
        cars.go(2);
        event(cars, 0, new int[] {0, 0, 0, 0});
        event(cars, 1, new int[] {0, 1, 1, 0});
        event(cars, 2, new int[] {1, 1, 0, 0});
        due("EVENTS", cars.count(11), 3);
    }

    /** Of 10 CROSSINGS and 9 SECTIONS 180 EVENTS, all of them ahead of the first that is OUT. */
    private static ConvoyTown withEvents(int cars) {
        StringBuilder text = new StringBuilder("road 1000;speed 1;gap 0;");
        for (int i = 0; i < 10; i++) {
            text.append("cross").append(i).append("wide1cycle1open0to1cars0serve1;");
        }
        ConvoyTown x = Checks.told(text + "column " + cars + "x1;");
        for (int car = 0; car < 8; car++) {
            x.split(car);
        }
        x.go(2000);
        return x;
    }

    /** The first 200 are told. */
    private static void twoHundred() {
        for (int cars = 19; cars <= 22; cars++) {
            ConvoyTown x = withEvents(cars);
            int many = Math.min(200, 180 + cars);
            due(cars + " CARS: OUT", x.count(10), cars);
            due(cars + " CARS: EVENTS", x.count(11), many);
            event(x, 179, new int[] {1, 9 + cars, 9, 8});
            event(x, 180, new int[] {2, 1000, -1, 0});
            event(x, many - 1, new int[] {2, 1000 + many - 181, -1, many - 181});
            due(cars + " CARS: one more", x.event(many, 0), -2);
            x.again();
            due(cars + " CARS: EVENTS anew", x.count(11), 0);
            due(cars + " CARS: event(0, 0) anew", x.event(0, 0), -2);
        }
    }

    /** THE END: none, as soon as there are 2000 TICKS without that; 0 without CARS. A RUN goes no further. */
    private static void theEnd() {
        due("END without CARS", new ConvoyTown().end(), 0);
        due("END without CARS, with START", Checks.told("start 999;").end(), 0);
        // 1001 meters by one a TICK, from TICK 999 on
        String slow = "road 1000;speed 1;start 999;";
        ConvoyTown just = Checks.told(slow + "column 1x1;");
        due("END 2000", just.end(), 2000);
        just.go(1999);
        due("behind 1999: none is OUT", just.count(10), 0);
        just.go(1);
        due("behind 2000: OUT", just.count(10), 1);
        due("no further", just.go(2000), 2000);
        ConvoyTown longer = Checks.told(slow + "column 1x2;");
        due("END none", longer.end(), -1);
        longer.go(2000);
        due("behind 2000: not OUT", longer.car(0, 1), SHIFT + 999);
        due("no further", longer.go(1), 2000);
        due("no further", longer.car(0, 1), SHIFT + 999);
        due("no further: WHY", longer.car(0, 3), 3);
        ConvoyTown most = Checks.told("road 1000;speed 1;gap 50;column 30x30;");
        due("END none, as long as can be", most.end(), -1);
        // 1000 and 2350 meters by 50
        due("END of these by 50", Checks.told("road 1000;speed 50;gap 50;column 30x30;").end(), 67);
        due("the least", Checks.told("road 10;speed 50;gap 0;column 30x1;").end(), 1);
    }

    public static void main(String[] args) {
        fronts();
        out();
        sections();
        needs();
        held();
        streets();
        servedAndOverrun();
        starts();
        brokens();
        behind();
        atCrossings();
        gathers();
        entering();
        whys();
        events();
        twoHundred();
        theEnd();
        CHECKS.finish();
    }
}
