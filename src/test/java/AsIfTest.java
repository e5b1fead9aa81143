/** Promises 20 to 33: end, where, waits, stretch, fewest, best, bestStart, harm, smooth, held, slowest, longest, marshals, price. */
public final class AsIfTest {
    /** One CAR stops at 30 till TICK 10, is on the CROSSING as TICK 11 begins, and OUT behind 18 TICKS. */
    private static final String ONE = "road 100;speed 10;cross 30 wide 10 cycle 20 open 10 to 20 cars 1 serve 1;column 1x5;";

    /**
     * It lets in an EXTENT of 10 at most, at TICKS that 10 divides: three CARS (16) never. With a split
     * behind CAR 1 the second SECTION comes to 30 in TICK 11, too late: OUT behind 28. With a split
     * behind CAR 0 that one ENTERS in TICK 10 as well, and is OUT behind 19.
     */
    private static final String STUCK = "road 100;speed 10;gap 2;cross 30 wide 10 cycle 10 open 0 to 2 cars 3 serve 2;column 3x4;";

    /** Nothing to stop it: OUT behind 12 TICKS. */
    private static final String FREE = "road 100;speed 10;gap 2;column 3x4;";

    private static final String GATHERED = "road 60;speed 10;gap 0;column 2x10;split 0;gather 30;broken 1 at 0 for 3;";

    /** The RUN itself stays, whatever is asked AS IF. */
    private static void runStays(Checks checks) {
        ConvoyTown x = Checks.told(ONE);
        x.go(11);
        x.end();
        x.where(0, 99);
        x.waits(99);
        x.best(2, 0);
        x.bestStart(60, 0);
        x.harm(0, 0, 5);
        x.smooth(60);
        x.slowest(100);
        x.marshals(1);
        x.price(1, 1);
        int[] due = {100, 10, 2, 0, 1, 1, 1, 0, 0, 11, 0, 1, 0, 0};
        for (int what = 0; what < due.length; what++) {
            checks.due("stays: count(" + what + ")", x.count(what), due[what]);
        }
        checks.due("stays: FRONT", x.car(0, 0), 100040);
        checks.due("stays: HELD", x.crossing(0, 4), 0);
        checks.due("stays: SERVED", x.crossing(0, 2), 11);
    }

    private static void ends(Checks checks) {
        checks.due("end() without CARS", Checks.told("").end(), 0);
        checks.due("end()", Checks.told(ONE).end(), 18);
        checks.due("end(), never", Checks.told(STUCK).end(), -1);
        checks.due("end()", Checks.told(FREE).end(), 12);
        checks.due("end() from START on", Checks.told(FREE + "start 999;").end(), 999 + 12);
        checks.due("end() GATHERED", Checks.told(GATHERED).end(), 11);
        // 999 and 1001 TICKS: FRONT has to get to 1000 and 1
        ConvoyTown x = Checks.told("road 1000;speed 1;column 1x1;start 999;");
        checks.due("end() at 2000", x.end(), 2000);
        x.broken(0, 1500, 1);
        checks.due("end(), not by 2000", x.end(), -1);
    }

    private static void wheres(Checks checks) {
        ConvoyTown x = Checks.told(ONE);
        int[][] due = {{0, 0}, {1, 10}, {3, 30}, {10, 30}, {11, 40}, {17, 100}, {18, 110}, {19, 110}, {2000, 110}};
        for (int[] row : due) {
            checks.due("where(0, " + row[0] + ")", x.where(0, row[0]), 100000 + row[1]);
        }
        checks.due("where(1, 0)", x.where(1, 0), -2);
        checks.due("where(-1, 2001)", x.where(-1, 2001), -2);
        checks.due("where(0, -1)", x.where(0, -1), -3);
        checks.due("where(0, 2001)", x.where(0, 2001), -3);
        checks.due("where(2, 0)", Checks.told(FREE).where(2, 0), 100000 - 12);
        checks.due("from START 1 on", Checks.told(FREE + "start 1;").where(0, 2), 100010);
        ConvoyTown later = Checks.told(FREE + "start 10;broken 0 at 11 for 500;");
        int[][] slow = {{10, 0}, {11, 10}, {12, 10}, {511, 10}, {512, 20}};
        for (int[] row : slow) {
            checks.due("later: where(0, " + row[0] + ")", later.where(0, row[0]), 100000 + row[1]);
        }
    }

    private static void waitsBehind(Checks checks) {
        ConvoyTown x = Checks.told(ONE);
        int[][] due = {{0, 0}, {11, 0}, {12, 1}, {13, 2}, {18, 7}, {100, 89}, {2000, 1989}};
        for (int[] row : due) {
            checks.due("waits(" + row[0] + ")", x.waits(row[0]), row[1]);
        }
        checks.due("waits(-1)", x.waits(-1), -3);
        checks.due("waits(2001)", x.waits(2001), -3);
        String two = "cross 1 wide 1 cycle 1 open 0 to 1 cars 1 serve 20;cross 2 wide 1 cycle 1 open 0 to 1 cars 2 serve 20;";
        // the first of each goes at once; then 1 and 2, and 1, WAIT
        checks.due("waits of all CROSSINGS, without CARS", Checks.told(two).waits(3), 1 + 2 + 1);
    }

    private static void stretches(Checks checks) {
        checks.due("stretch(0) without CARS", Checks.told("").stretch(0), -5);
        checks.due("stretch(2) without CARS", Checks.told("").stretch(2), -5);
        ConvoyTown x = Checks.told(GATHERED);
        checks.due("stretch(0)", x.stretch(0), 50);
        checks.due("stretch(1)", x.stretch(1), 3);
        checks.due("stretch(2)", x.stretch(2), -2);
        checks.due("stretch(-1)", x.stretch(-1), -2);
        checks.due("stretch(0) of one that never stretches", Checks.told(FREE).stretch(0), 16);
        checks.due("stretch(1) of one that never stretches", Checks.told(FREE).stretch(1), 0);
        ConvoyTown never = Checks.told("road 1000;speed 1;gap 0;column 2x1;" + "broken 1 at 100 for 500;"
            + "broken 1 at 600 for 500;broken 1 at 1100 for 500;broken 1 at 1600 for 500;");
        // CAR 0 is OUT behind 1001 TICKS, CAR 1 stays with its TAIL at 98 from TICK 100 on
        checks.due("stretch(0) without END", never.stretch(0), 1001 - 98);
        checks.due("stretch(1) without END", never.stretch(1), 1001);
    }

    private static void fewestSplits(Checks checks) {
        checks.due("fewest() without CARS", Checks.told("").fewest(), -5);
        checks.due("fewest()", Checks.told(FREE).fewest(), 0);
        checks.due("fewest(), told splits don't matter", Checks.told(FREE + "split 0;").fewest(), 0);
        checks.due("fewest()", Checks.told(STUCK).fewest(), 1);
        checks.due("fewest() of six", Checks.told(STUCK + "column 3x4;").fewest(), 2);
        checks.due("fewest(), a CAR by itself can't", Checks.told(STUCK + "column 1x11;").fewest(), -1);
        checks.due("fewest(), a CAR by itself just can", Checks.told(STUCK + "column 1x10;").fewest(), 2);
        checks.due("fewest(), OPEN all the time",
            Checks.told("cross 0 wide 50 cycle 1 open 0 to 1 cars 0 serve 1;column 30x30;").fewest(), 0);
        checks.due("fewest(), each CROSSING counts", Checks.told("road 100;speed 10;gap 0;"
            + "cross 0 wide 1 cycle 9 open 0 to 4 cars 0 serve 1;cross 50 wide 5 cycle 9 open 2 to 4 cars 0 serve 1;column 4x5;").fewest(), 1);
    }

    private static void bestSplits(Checks checks) {
        ConvoyTown none = Checks.told("");
        checks.due("best(3, 3) without CARS", none.best(3, 3), -5);
        ConvoyTown x = Checks.told(STUCK + "split 1;");
        checks.due("END as told", x.end(), 28);
        checks.due("best(0, 0), no set", x.best(0, 0), -1);
        checks.due("best(0, 1)", x.best(0, 1), -1);
        checks.due("best(2, 0)", x.best(2, 0), 19);
        checks.due("best(2, 1)", x.best(2, 1), 0);
        checks.due("best(2, 2), of like ones the fewest", x.best(2, 2), -1);
        checks.due("best(1, 0)", x.best(1, 0), 19);
        checks.due("best(1, 1)", x.best(1, 1), 0);
        checks.due("best(1, 2)", x.best(1, 2), -1);
        checks.due("best(-1, 0)", x.best(-1, 0), -3);
        checks.due("best(3, 3)", x.best(3, 3), -3);
        checks.due("best(0, 3)", x.best(0, 3), -2);
        checks.due("best(0, -1)", x.best(0, -1), -2);
        x.broken(0, 0, 10);
        // CAR 0 starts with TICK 10, is at 30 in TICK 12: all is 10 TICKS later, 20 divides as 10 does
        checks.due("best(1, 0) behind an ACT", x.best(1, 0), 29);
        checks.due("best of one CAR", Checks.told("column 1x5;").best(2, 1), -1);
        ConvoyTown free = Checks.told(FREE + "split 0;");
        checks.due("best(2, 0), nothing to gain", free.best(2, 0), 12);
        checks.due("best(2, 1), nothing to gain", free.best(2, 1), -1);
        checks.due("best(1, 1), nothing to gain", free.best(1, 1), -1);
        // 20 meters at most: each CAR by itself
        ConvoyTown two = Checks.told("road 100;speed 10;gap 2;cross 30 wide 10 cycle 10 open 0 to 2 cars 0 serve 1;column 3x10;");
        checks.due("best(1, 0), one is not enough", two.best(1, 0), -1);
        checks.due("best(2, 1)", two.best(2, 1), 0);
        checks.due("best(2, 2)", two.best(2, 2), 1);
        checks.due("fewest()", two.fewest(), 2);
    }

    private static void bestStarts(Checks checks) {
        checks.due("bestStart(61, 2) without CARS", Checks.told("").bestStart(61, 2), -5);
        // HELD in TICK 4 and START; they come each 4 TICKS
        ConvoyTown x = Checks.told("road 100;speed 10;start 500;cross 30 wide 10 cycle 1 open 0 to 1 cars 4 serve 1;column 1x5;");
        checks.due("bestStart(0, 0)", x.bestStart(0, 0), 0);
        checks.due("bestStart(0, 1)", x.bestStart(0, 1), 1);
        checks.due("bestStart(1, 0)", x.bestStart(1, 0), 1);
        checks.due("bestStart(60, 0), of like ones the least", x.bestStart(60, 0), 1);
        checks.due("bestStart(60, 1)", x.bestStart(60, 1), 0);
        ConvoyTown last = Checks.told("road 100;speed 10;cross 30 wide 10 cycle 1 open 0 to 1 cars 64 serve 1;column 1x5;");
        checks.due("HELD in TICK 64 by START 60", last.bestStart(60, 0), 0);
        last.broken(0, 0, 60);
        checks.due("bestStart(60, 1): HELD in 64 by all", last.bestStart(60, 1), 1);
        last.broken(0, 60, 1);
        checks.due("bestStart(60, 1)", last.bestStart(60, 1), 0);
        // HELD for 60 TICKS from 4 and START on; they come at 0, 63, 126: by START 60 alone none WAITS
        ConvoyTown sixty = Checks.told("road 100;speed 10;gap 0;cross 30 wide 10 cycle 1 open 0 to 1 cars 63 serve 1;column 20x30;");
        checks.due("bestStart(60, 0) by START 60 alone", sixty.bestStart(60, 0), 60);
        checks.due("bestStart(60, 1)", sixty.bestStart(60, 1), 0);
        checks.due("bestStart(59, 0)", sixty.bestStart(59, 0), 0);
        checks.due("bestStart(59, 1)", sixty.bestStart(59, 1), 1);
        checks.due("bestStart(-1, 0)", x.bestStart(-1, 0), -3);
        checks.due("bestStart(61, 2)", x.bestStart(61, 2), -3);
        checks.due("bestStart(60, 2)", x.bestStart(60, 2), -2);
        checks.due("bestStart(60, -1)", x.bestStart(60, -1), -2);
        checks.due("START stays", x.count(3), 500);
        ConvoyTown stuck = Checks.told(STUCK);
        checks.due("bestStart(60, 0), no END", stuck.bestStart(60, 0), -1);
        checks.due("bestStart(60, 1), no END", stuck.bestStart(60, 1), -1);
        // only by START 0 it is OUT behind 2000 TICKS: WAITS are what they are
        ConvoyTown long1 = Checks.told("road 1000;speed 1;gap 0;column 1x1;broken 0 at 3 for 500;broken 0 at 503 for 499;");
        checks.due("END", long1.end(), 2000);
        checks.due("bestStart(60, 0)", long1.bestStart(60, 0), 0);
    }

    private static void harms(Checks checks) {
        ConvoyTown x = Checks.told(ONE);
        checks.due("harm(0, 0, 5): it waits anyway", x.harm(0, 0, 5), 100000);
        checks.due("harm(0, 0, 7)", x.harm(0, 0, 7), 100000);
        checks.due("harm(0, 0, 8): a TICK later at 30", x.harm(0, 0, 8), 100001);
        checks.due("harm(0, 11, 10)", x.harm(0, 11, 10), 100010);
        checks.due("harm(0, 18, 500): it is OUT by then", x.harm(0, 18, 500), 100000);
        checks.due("harm(1, 0, 1)", x.harm(1, 0, 1), -2);
        checks.due("harm(-1, -1, 1)", x.harm(-1, -1, 1), -2);
        checks.due("harm(0, -1, 1)", x.harm(0, -1, 1), -3);
        checks.due("harm(0, 2000, 1)", x.harm(0, 2000, 1), -3);
        checks.due("harm(0, 0, 0)", x.harm(0, 0, 0), -3);
        checks.due("harm(0, 0, 501)", x.harm(0, 0, 501), -3);
        checks.due("none is told", x.count(8), 0);
        for (int i = 0; i < 6; i++) {
            x.broken(0, 11 + i, 1);
        }
        checks.due("harm besides six", x.harm(0, 17, 3), 100003);
        for (int i = 0; i < 6; i++) {
            x.mended();
        }
        ConvoyTown two = Checks.told(FREE + "broken 0 at 0 for 1;broken 0 at 0 for 1;broken 0 at 0 for 1;"
            + "broken 1 at 1 for 2;broken 2 at 3 for 4;broken 1 at 7 for 8;");
        // CAR 2 stands in TICKS 0 to 6, goes on to CAR 1 in 7 to 10, stands in 11 to 14
        checks.due("END by six", two.end(), 12 + 11);
        checks.due("harm besides six", two.harm(2, 15, 16), 100016);
        checks.due("harm besides six, it can't catch up", two.harm(2, 7, 8), 100004);
        checks.due("harm besides six, it waits anyway", two.harm(2, 11, 4), 100000);
        checks.due("harm(), no END without", Checks.told(STUCK).harm(0, 0, 1), -1);
        ConvoyTown edge = Checks.told("road 1000;speed 1;column 1x1;start 999;");
        checks.due("harm(), no END with", edge.harm(0, 1500, 1), -1);
        // without it CAR 0 waits at 12 till the column is CLOSED; if both are BROKEN it always is
        ConvoyTown sooner = Checks.told("road 101;speed 10;gap 2;gather 12;column 2x5;broken 1 at 0 for 1;");
        checks.due("END", sooner.end(), 14);
        checks.due("harm, sooner", sooner.harm(0, 0, 1), 100000 + 13 - 14);
        checks.due("harm, behind THE END", sooner.harm(0, 100, 1), 100000);
        ConvoyTown parted = Checks.told(STUCK + "split 1;");
        checks.due("harm, behind THE END", parted.harm(0, 100, 1), 100000);
        checks.due("harm, behind THE END", parted.harm(1, 100, 1), 100000);
    }

    private static void smooths(Checks checks) {
        checks.due("smooth(61) without CARS", Checks.told("").smooth(61), -5);
        ConvoyTown x = Checks.told(ONE);
        checks.due("smooth(6)", x.smooth(6), -1);
        checks.due("smooth(7)", x.smooth(7), 7);
        checks.due("smooth(60)", x.smooth(60), 7);
        checks.due("smooth(-1)", x.smooth(-1), -3);
        checks.due("smooth(61)", x.smooth(61), -3);
        checks.due("smooth(0), nothing stops it", Checks.told(FREE + "start 50;").smooth(0), 0);
        checks.due("smooth(60) by START 60 alone", Checks.told("road 100;speed 10;cross 30 wide 10 cycle 100 open 63 to 65 cars 0 serve 1;"
            + "column 1x5;").smooth(60), 60);
        checks.due("smooth(59)", Checks.told("road 100;speed 10;cross 30 wide 10 cycle 100 open 63 to 65 cars 0 serve 1;"
            + "column 1x5;").smooth(59), -1);
        // CAR 1 stands at 20, where the CROSSING begins, and right behind CAR 0, that is BROKEN there: as
        // nothing moves, WHY of it is 6 in TICKS 3 to 8, 5 in 9 to 19, 6 in 20 to 22
        ConvoyTown both = Checks.told("road 100;speed 10;gap 0;cross 20 wide 10 cycle 20 open 0 to 10 cars 0 serve 1;"
            + "column 1x10;column 1x5;split 0;broken 0 at 3 for 20;");
        checks.due("smooth(0), held by both", both.smooth(0), -1);
        checks.due("held(1, 5)", both.held(1, 5), 11);
        checks.due("held(1, 6)", both.held(1, 6), 9);
        checks.due("smooth(60), no END", Checks.told(STUCK).smooth(60), -1);
        checks.due("smooth(60), no END, no CROSSING", Checks.told("road 1000;speed 1;gap 50;column 30x30;").smooth(60), -1);
    }

    private static void heldCars(Checks checks) {
        ConvoyTown x = Checks.told(ONE);
        int[] due = {0, 0, 0, 11, 0, 7, 0};
        for (int why = 0; why < 7; why++) {
            checks.due("held(0, " + why + ")", x.held(0, why), due[why]);
        }
        checks.due("held(0, 7)", x.held(0, 7), -2);
        checks.due("held(0, -1)", x.held(0, -1), -2);
        checks.due("held(1, 0)", x.held(1, 0), -2);
        checks.due("held(-1, 0)", x.held(-1, 0), -2);
        ConvoyTown stuck = Checks.told(STUCK);
        checks.due("held by 2000", stuck.held(0, 5), 1997);
        checks.due("held by 2000, behind it", stuck.held(2, 6), 1997);
        ConvoyTown gathered = Checks.told(GATHERED + "start 2;broken 0 at 3 for 1;");
        int[][] all = {{1, 2, 1, 7, 0, 0, 0}, {0, 2, 1, 8, 0, 0, 0}};
        for (int car = 0; car < 2; car++) {
            for (int why = 0; why < 7; why++) {
                checks.due("GATHERED: held(" + car + ", " + why + ")", gathered.held(car, why), all[car][why]);
            }
        }
        checks.due("held(0, 4)", Checks.told(GATHERED).held(0, 4), 3);
    }

    private static void slowestSpeeds(Checks checks) {
        checks.due("slowest(2001) without CARS", Checks.told("").slowest(2001), -5);
        ConvoyTown x = Checks.told("road 100;speed 10;column 1x5;");
        // 105 meters
        checks.due("slowest(105)", x.slowest(105), 1);
        checks.due("slowest(104)", x.slowest(104), 2);
        checks.due("slowest(3)", x.slowest(3), 35);
        checks.due("slowest(2)", x.slowest(2), -1);
        checks.due("slowest(2) by 50", Checks.told("road 95;column 1x5;").slowest(2), 50);
        checks.due("slowest(0)", x.slowest(0), -1);
        checks.due("slowest(2000)", x.slowest(2000), 1);
        checks.due("slowest(-1)", x.slowest(-1), -3);
        checks.due("slowest(2001)", x.slowest(2001), -3);
        checks.due("V stays", x.count(1), 10);
        // 26 meters in two TICKS
        checks.due("slowest(2000), by NEED", Checks.told(STUCK).slowest(2000), 13);
    }

    private static void longestHeld(Checks checks) {
        checks.due("longest(0)", Checks.told(ONE).longest(0), 1);
        checks.due("longest(0)", Checks.told(ONE + "broken 0 at 11 for 10;").longest(0), 11);
        checks.due("longest(1)", Checks.told(ONE).longest(1), -2);
        checks.due("longest(-1)", Checks.told(ONE).longest(-1), -2);
        checks.due("longest(0), never", Checks.told(STUCK).longest(0), 0);
        checks.due("longest(0) without CARS",
            Checks.told("cross 1 wide 1 cycle 1 open 0 to 1 cars 0 serve 1;").longest(0), 0);
        // side by side: by SECTION 0 in TICK 4, not in 5, by SECTION 1 in 6 to 8
        checks.due("longest(0), two SECTIONS", Checks.told("road 100;speed 10;gap 10;cross 30 wide 10 cycle 1 open 0 to 1 cars 0 serve 1;"
            + "column 2x5;split 0;broken 1 at 0 for 1;broken 1 at 6 for 2;").longest(0), 3);
        checks.due("longest(0) by 2000", Checks.told("road 1000;speed 1;gap 0;cross 99 wide 10 cycle 1 open 0 to 1 cars 0 serve 1;"
            + "column 1x1;broken 0 at 100 for 500;broken 0 at 600 for 500;broken 0 at 1100 for 500;broken 0 at 1600 for 500;").longest(0), 1900);
    }

    private static void fewestMarshals(Checks checks) {
        // HELD in TICK 4, and in TICK 11: 70 meters in six TICKS
        ConvoyTown x = Checks.told("road 200;speed 10;cross 30 wide 10 cycle 1 open 0 to 1 cars 0 serve 1;"
            + "cross 100 wide 10 cycle 1 open 0 to 1 cars 0 serve 1;column 1x5;");
        checks.due("marshals(11)", x.marshals(11), 2);
        checks.due("marshals(12)", x.marshals(12), 1);
        checks.due("marshals(50)", x.marshals(50), 1);
        // 60 meters in five TICKS
        ConvoyTown just = Checks.told("road 200;speed 10;cross 30 wide 10 cycle 1 open 0 to 1 cars 0 serve 1;"
            + "cross 90 wide 10 cycle 1 open 0 to 1 cars 0 serve 1;column 1x5;");
        checks.due("marshals(12), just so", just.marshals(12), 1);
        checks.due("marshals(11)", just.marshals(11), 2);
        // and 140 meters in thirteen from the first to the third
        ConvoyTown three = Checks.told("road 200;speed 10;cross 30 wide 10 cycle 1 open 0 to 1 cars 0 serve 1;"
            + "cross 100 wide 10 cycle 1 open 0 to 1 cars 0 serve 1;cross 170 wide 10 cycle 1 open 0 to 1 cars 0 serve 1;column 1x5;");
        checks.due("three: marshals(12)", three.marshals(12), 1);
        checks.due("three: marshals(11)", three.marshals(11), 2);
        checks.due("three: marshals(10)", three.marshals(10), 3);
        checks.due("marshals(0)", x.marshals(0), -3);
        checks.due("marshals(51)", x.marshals(51), -3);
        checks.due("marshals(1) without CARS", Checks.told("").marshals(1), 0);
        checks.due("marshals(1), none HELD", Checks.told(STUCK).marshals(1), 0);
        // gone over in one TICK, the CROSSING is never HELD as one begins
        checks.due("marshals(1), none GUARDED",
            Checks.told("road 100;speed 50;cross 60 wide 10 cycle 1 open 0 to 1 cars 0 serve 1;column 1x5;").marshals(1), 0);
    }

    private static void prices(Checks checks) {
        ConvoyTown x = Checks.told(ONE);
        // 18 TICKS, WAITS 7
        checks.due("price(0, 0)", x.price(0, 0), 0);
        checks.due("price(1, 0)", x.price(1, 0), 18);
        checks.due("price(0, 1)", x.price(0, 1), 7);
        checks.due("price(2, 3)", x.price(2, 3), 57);
        checks.due("price, the most", x.price(512409557603043100L, 1), Long.MAX_VALUE);
        checks.due("price, one b more", x.price(512409557603043100L, 2), -6);
        checks.due("price, one a more", x.price(512409557603043101L, 0), -6);
        checks.due("price(most, most)", x.price(Long.MAX_VALUE, Long.MAX_VALUE), -6);
        checks.due("price(0, most)", x.price(0, Long.MAX_VALUE), -6);
        checks.due("price(-1, 0)", x.price(-1, 0), -3);
        checks.due("price(0, -1)", x.price(0, -1), -3);
        checks.due("price(least, most)", x.price(Long.MIN_VALUE, Long.MAX_VALUE), -3);
        checks.due("price, no END", Checks.told(STUCK).price(Long.MAX_VALUE, 1), -1);
        checks.due("price(-1, 0), no END", Checks.told(STUCK).price(-1, 0), -3);
        checks.due("price without CARS", Checks.told("").price(Long.MAX_VALUE, Long.MAX_VALUE), 0);
        checks.due("price without WAITS", Checks.told("road 10;speed 50;column 1x5;").price(Long.MAX_VALUE, Long.MAX_VALUE), Long.MAX_VALUE);
        checks.due("NONE", ConvoyTown.NONE, -1);
        checks.due("GREAT", ConvoyTown.GREAT, -6);
    }

    /** What was found AS IF holds no longer behind an ACT. */
    private static void foundAnew(Checks checks) {
        ConvoyTown x = Checks.told(ONE);
        for (int round = 0; round < 2; round++) {
            checks.due("END", x.end(), 18);
            checks.due("held(0, 5)", x.held(0, 5), 7);
            checks.due("held(0, 1)", x.held(0, 1), 0);
            checks.due("longest(0)", x.longest(0), 1);
            checks.due("marshals(1)", x.marshals(1), 1);
            checks.due("stretch(0)", x.stretch(0), 5);
            checks.due("best(0, 0)", x.best(0, 0), 18);
            checks.due("smooth(10)", x.smooth(10), 7);
            checks.due("slowest(18)", x.slowest(18), 10);
            checks.due("price(1, 1)", x.price(1, 1), 25);
            x.start(20);
            checks.due("behind start(20): END", x.end(), 38);
            checks.due("behind start(20): held(0, 5)", x.held(0, 5), 7);
            checks.due("behind start(20): held(0, 1)", x.held(0, 1), 20);
            checks.due("behind start(20): best(0, 0)", x.best(0, 0), 38);
            checks.due("behind start(20): smooth(10)", x.smooth(10), 7);
            checks.due("behind start(20): slowest(38)", x.slowest(38), 10);
            checks.due("behind start(20): price(1, 0)", x.price(1, 0), 38);
            x.broken(0, 0, 500);
            x.broken(0, 500, 500);
            x.broken(0, 1000, 500);
            x.broken(0, 1500, 500);
            checks.due("never: END", x.end(), -1);
            checks.due("never: longest(0)", x.longest(0), 0);
            checks.due("never: marshals(1)", x.marshals(1), 0);
            checks.due("never: held(0, 2)", x.held(0, 2), 1980);
            checks.due("never: stretch(1)", x.stretch(1), 0);
            checks.due("never: best(0, 0)", x.best(0, 0), -1);
            checks.due("never: bestStart(5, 0)", x.bestStart(5, 0), -1);
            checks.due("never: smooth(10)", x.smooth(10), -1);
            checks.due("never: slowest(2000)", x.slowest(2000), -1);
            for (int i = 0; i < 5; i++) {
                x.undo();
            }
        }
    }

    public static void main(String[] args) {
        Checks checks = new Checks();
        runStays(checks);
        ends(checks);
        wheres(checks);
        waitsBehind(checks);
        stretches(checks);
        fewestSplits(checks);
        bestSplits(checks);
        bestStarts(checks);
        harms(checks);
        smooths(checks);
        heldCars(checks);
        slowestSpeeds(checks);
        longestHeld(checks);
        fewestMarshals(checks);
        prices(checks);
        foundAnew(checks);
        checks.finish();
    }
}
