/** Promises 10 to 15 and 34: go, again, car, crossing, section, event, count. */
public final class RunTest {
    /** ONE: its CAR stops at 30 till TICK 10, is on the CROSSING as TICK 11 begins, and OUT behind 18 TICKS. */
    private static final String CROSS = "cross 30 wide 10 cycle 20 open 10 to 20 cars 1 serve 1;";
    private static final String ONE = "road 100;speed 10;" + CROSS + "column 1x5;";

    private static void going(Checks checks) {
        ConvoyTown x = Checks.told(ONE);
        checks.due("go(-1)", x.go(-1), -3);
        checks.due("go(2001)", x.go(2001), -3);
        checks.due("go(0)", x.go(0), 0);
        checks.due("go(1500)", x.go(1500), 1500);
        checks.due("go(500)", x.go(500), 2000);
        checks.due("go(1), no further", x.go(1), 2000);
        checks.due("again()", x.again(), 2000);
        checks.due("again()", x.again(), 0);
        checks.due("go(2000)", x.go(2000), 2000);
        x.again();
        checks.due("again: FRONT", x.car(0, 0), 100000);
        checks.due("again: WHY", x.car(0, 3), -1);
        checks.due("again: SERVED", x.crossing(0, 2), 0);
        checks.due("again: the most that WAITED", x.crossing(0, 3), 0);
        checks.due("again: EVENTS", x.count(11), 0);
        checks.due("again: OUT", x.count(10), 0);
        checks.due("again is no ACT", x.count(12), 0);
    }

    private static void cars(Checks checks) {
        ConvoyTown x = Checks.told("road 100;speed 10;gap 3;start 1;column 1x5;column 2x7;split 0;broken 0 at 2 for 2;");
        checks.due("car(-1, 0)", x.car(-1, 0), -2);
        checks.due("car(3, 0)", x.car(3, 0), -2);
        checks.due("car(0, -1)", x.car(0, -1), -2);
        checks.due("car(0, 6)", x.car(0, 6), -2);
        checks.due("FRONT of CAR 1", x.car(1, 0), 100000 - 8);
        checks.due("FRONT of CAR 2", x.car(2, 0), 100000 - 18);
        checks.due("TAIL of CAR 2", x.car(2, 1), 100000 - 25);
        checks.due("LONG of CAR 0", x.car(0, 2), 5);
        checks.due("LONG of CAR 2", x.car(2, 2), 7);
        checks.due("WHY", x.car(2, 3), -1);
        checks.due("SECTION of CAR 0", x.car(0, 4), 0);
        checks.due("SECTION of CAR 1", x.car(1, 4), 1);
        checks.due("SECTION of CAR 2", x.car(2, 4), 1);
        int[][] why = {{1, 1, 1}, {3, 3, 3}, {2, 6, 6}, {2, 6, 6}, {3, 3, 3}};
        int[] front = {0, 10, 10, 10, 20};
        for (int t = 0; t < why.length; t++) {
            x.go(1);
            for (int car = 0; car < 3; car++) {
                checks.due("WHY of " + car + " in TICK " + t, x.car(car, 3), why[t][car]);
            }
            checks.due("FRONT of 0 behind TICK " + t, x.car(0, 0), 100000 + front[t]);
        }
        x.go(8);
        checks.due("FRONT", x.car(0, 0), 100100);
        checks.due("not OUT", x.car(0, 5), 0);
        x.go(1);
        checks.due("FRONT", x.car(0, 0), 100110);
        checks.due("TAIL", x.car(0, 1), 100105);
        checks.due("OUT", x.car(0, 5), 1);
        checks.due("it went V meters", x.car(0, 3), 3);
        checks.due("one is OUT", x.count(10), 1);
        x.go(1);
        checks.due("OUT, and stays", x.car(0, 0), 100110);
        checks.due("it was OUT", x.car(0, 3), 0);
        checks.due("CAR 1 goes on", x.car(1, 0), 100112);
        x.go(2);
        checks.due("all are OUT", x.count(10), 3);
    }

    /** WHY, where several hold a CAR: of those that let it go just so far the least number. */
    private static void whys(Checks checks) {
        ConvoyTown x = Checks.told("road 100;speed 10;gap 0;cross 30 wide 5 cycle 50 open 49 to 50 cars 0 serve 1;"
            + "column 2x5;split 0;gather 30;broken 1 at 0 for 1;");
        x.go(3);
        checks.due("up to 30 it went V meters", x.car(0, 3), 3);
        x.go(1);
        checks.due("a GATHER ahead of a CROSSING", x.car(0, 3), 4);
        checks.due("CAR 1 goes as far as it can", x.car(1, 0), 100025);
        checks.due("CAR 1 went V meters", x.car(1, 3), 3);
        x.go(1);
        checks.due("CLOSED: the CROSSING", x.car(0, 3), 5);
        checks.due("CAR 1: the CAR ahead", x.car(1, 3), 6);
        ConvoyTown y = Checks.told("road 100;speed 10;gap 5;cross 20 wide 5 cycle 50 open 49 to 50 cars 0 serve 1;"
            + "cross 30 wide 5 cycle 50 open 49 to 50 cars 0 serve 1;column 2x5;split 0;broken 0 at 3 for 40;");
        y.go(4);
        checks.due("BROKEN ahead of a CROSSING", y.car(0, 3), 2);
        checks.due("CAR 1 behind it: the CAR ahead", y.car(1, 3), 6);
    }

    private static void crossings(Checks checks) {
        ConvoyTown x = Checks.told(ONE);
        checks.due("crossing(-1, 0)", x.crossing(-1, 0), -2);
        checks.due("crossing(1, 0)", x.crossing(1, 0), -2);
        checks.due("crossing(0, -1)", x.crossing(0, -1), -2);
        checks.due("crossing(0, 8)", x.crossing(0, 8), -2);
        x.go(11);
        int[] behind11 = {0, 0, 11, 1, 0, 0, 0, 0};
        int[] behind12 = {1, 1, 11, 1, -1, 1, 0, 0};
        int[] behind13 = {1, 2, 12, 2, -1, 1, 0, 1};
        int[] behind18 = {1, 7, 17, 2, -1, 1, 0, 1};
        all(checks, x, 11, behind11);
        x.go(1);
        all(checks, x, 12, behind12);
        x.go(1);
        all(checks, x, 13, behind13);
        x.go(5);
        all(checks, x, 18, behind18);
        ConvoyTown y = Checks.told(ONE + "broken 0 at 11 for 10;");
        y.go(22);
        // HELD in 11 to 21, not OPEN in 20 and 21; those of 11 to 21 WAIT
        all(checks, y, 22, new int[] {11, 66, 11, 11, -1, 11, 2, 0});
        y.go(1);
        all(checks, y, 23, new int[] {11, 77, 12, 12, -1, 11, 2, 11});
        y.again();
        all(checks, y, 0, new int[] {0, 0, 0, 0, -1, 0, 0, 0});
        // HELD from above P to below its end: 30 is not above, a TAIL at 40 is not below
        ConvoyTown edge = Checks.told("road 100;speed 5;gap 0;cross 30 wide 10 cycle 1 open 0 to 1 cars 0 serve 1;column 2x5;split 0;");
        int[] holder = {-1, -1, -1, -1, -1, -1, -1, 0, 0, 1, -1, -1};
        for (int t = 0; t < holder.length; t++) {
            checks.due("HELD by, behind " + t, edge.crossing(0, 4), holder[t]);
            edge.go(1);
        }
        ConvoyTown z = Checks.told("cross 50 wide 1 cycle 2 open 0 to 1 cars 3 serve 4;"
            + "cross 60 wide 1 cycle 2 open 0 to 1 cars 0 serve 1;");
        z.go(13);
        // they come at 0, 3, 6, 9, 12 and go at 0, 4, 8, 12
        all(checks, z, 13, new int[] {1, 7, 4, 2, -1, 0, 0, 3});
        checks.due("none comes", z.crossing(1, 3), 0);
    }

    private static void all(Checks checks, ConvoyTown x, int ticks, int[] due) {
        for (int what = 0; what < due.length; what++) {
            checks.due("crossing(0, " + what + ") behind " + ticks, x.crossing(0, what), due[what]);
        }
    }

    private static void sections(Checks checks) {
        ConvoyTown x = Checks.told("road 100;speed 10;gap 2;column 2x5;column 2x3;split 1;broken 2 at 0 for 3;");
        checks.due("section(-1, 0)", x.section(-1, 0), -2);
        checks.due("section(2, 0)", x.section(2, 0), -2);
        checks.due("section(0, -1)", x.section(0, -1), -2);
        checks.due("section(0, 4)", x.section(0, 4), -2);
        int[][] due = {{0, 1, 12, 12}, {2, 3, 8, 8}};
        for (int section = 0; section < 2; section++) {
            for (int what = 0; what < 4; what++) {
                checks.due("section(" + section + ", " + what + ")", x.section(section, what), due[section][what]);
            }
        }
        x.split(1);
        x.go(3);
        checks.due("from its last TAIL to its first FRONT", x.section(0, 3), 22 + 30);
        checks.due("EXTENT stays", x.section(0, 2), 22);
    }

    private static void events(Checks checks) {
        ConvoyTown x = Checks.told(ONE);
        checks.due("event(0, 0) ahead of any", x.event(0, 0), -2);
        x.go(18);
        int[][] due = {{0, 10, 0, 0}, {1, 11, 0, 0}, {2, 17, -1, 0}};
        checks.due("EVENTS", x.count(11), 3);
        for (int event = 0; event < 3; event++) {
            for (int what = 0; what < 4; what++) {
                checks.due("event(" + event + ", " + what + ")", x.event(event, what), due[event][what]);
            }
        }
        checks.due("event(-1, 0)", x.event(-1, 0), -2);
        checks.due("event(3, 0)", x.event(3, 0), -2);
        checks.due("event(0, 4)", x.event(0, 4), -2);
        checks.due("event(0, -1)", x.event(0, -1), -2);
        // of one CAR in a TICK by CROSSINGS, 0 ahead of 1, OUT behind these
        ConvoyTown fast = Checks.told("road 40;speed 50;gap 0;cross 1 wide 2 cycle 1 open 0 to 1 cars 0 serve 1;"
            + "cross 5 wide 2 cycle 1 open 0 to 1 cars 0 serve 1;column 2x2;split 0;");
        fast.go(1);
        int[][] order = {{0, 0, 0, 0}, {1, 0, 0, 0}, {0, 0, 1, 0}, {1, 0, 1, 0}, {2, 0, -1, 0},
            {0, 0, 0, 1}, {1, 0, 0, 1}, {0, 0, 1, 1}, {1, 0, 1, 1}, {2, 0, -1, 1}};
        checks.due("EVENTS of one TICK", fast.count(11), order.length);
        for (int event = 0; event < order.length; event++) {
            for (int what = 0; what < 4; what++) {
                checks.due("fast: event(" + event + ", " + what + ")", fast.event(event, what), order[event][what]);
            }
        }
    }

    /** 15 SECTIONS at 10 CROSSINGS: 330 EVENTS, of which the first 200 are told. */
    private static void manyEvents(Checks checks) {
        StringBuilder text = new StringBuilder("speed 1;gap 0;");
        for (int i = 0; i < 10; i++) {
            text.append("cross").append(i).append("wide1cycle1open0to1cars0serve1;");
        }
        ConvoyTown x = Checks.told(text + "column 30x1;");
        for (int car = 1; car < 29; car += 2) {
            x.split(car);
        }
        x.go(2000);
        checks.due("SECTIONS", x.count(6), 15);
        checks.due("OUT", x.count(10), 30);
        checks.due("EVENTS", x.count(11), 200);
        checks.due("the first", x.event(0, 1), 0);
        checks.due("event(199, 0)", x.event(199, 0) >= 0 ? 1 : 0, 1);
        checks.due("event(200, 0)", x.event(200, 0), -2);
    }

    private static void counts(Checks checks) {
        ConvoyTown x = Checks.told("road 90;speed 9;gap 1;start 2;" + CROSS
            + "column 4x2;split 0;split 2;gather 5;gather 6;broken 0 at 99 for 1;");
        x.split(1);
        x.go(14);
        x.feed(0, 0, 0, 0, 0);
        int[] due = {90, 9, 1, 2, 1, 4, 4, 2, 1, 14, 0, 8, 1, 20};
        for (int what = 0; what < due.length; what++) {
            checks.due("count(" + what + ")", x.count(what), due[what]);
        }
        checks.due("count(14)", x.count(14), -1);
        checks.due("count(-1)", x.count(-1), -1);
        checks.due("count(Integer.MIN_VALUE)", x.count(Integer.MIN_VALUE), -1);
    }

    public static void main(String[] args) {
        Checks checks = new Checks();
        going(checks);
        cars(checks);
        whys(checks);
        crossings(checks);
        sections(checks);
        events(checks);
        manyEvents(checks);
        counts(checks);
        checks.finish();
    }
}
