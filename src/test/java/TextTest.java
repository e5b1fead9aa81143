/** Promises 1 to 4: a new object, feed, tell, fault. */
public final class TextTest {
    private static final String TEN_CROSSINGS = tenCrossings();

    private static String tenCrossings() {
        StringBuilder text = new StringBuilder();
        for (int i = 0; i < 10; i++) {
            text.append("cross").append(i).append("wide1cycle1open0to1cars0serve1;");
        }
        return text.toString();
    }

    /** Texts with a FAULT: the text, which one, its place. */
    private static final Object[][] FAULTS = {
        // what can't stand there
        {";", 1, 0}, {"road", 1, 4}, {"road 100", 1, 8}, {"road 100 ", 1, 9}, {"road;", 1, 4}, {"road 10 0;", 1, 8},
        {"roads 10;", 1, 0}, {"Road 10;", 1, 0}, {"  Road 10;", 1, 2}, {"road x;", 1, 5}, {"road 10,", 1, 7},
        {"road 10;;", 1, 8}, {"10;", 1, 0}, {"99999;", 1, 0}, {"x;", 1, 0}, {"road\n10;", 1, 4}, {"road 10\0;", 1, 7},
        {"roadspeed 10;", 1, 0}, {"roadz 10;", 1, 0}, {"roada 10;", 1, 0}, {"road`10;", 1, 4}, {"road{10;", 1, 4}, {"road -10;", 1, 5}, {"road 10;" + (char) 233, 1, 8}, {"r oad 10;", 1, 0},
        {"road 10;road 10;", 1, 8}, {"speed 5;speed 5;", 1, 8}, {"gap 5;gap 5;", 1, 6}, {"start 5;start 5;", 1, 8},
        {"column 1x1;road 50;", 1, 11}, {"gather 5;road 50;", 1, 9}, {"column 1x1;split 0;road 50;", 1, 19},
        {"cross0wide1cycle1open0to1cars0serve1;road 9;", 1, 37}, {"column 1x1;broken 0 at 0 for 1;road 50;", 1, 31},
        {"column 1 y 1;", 1, 9}, {"column 1 xx 1;", 1, 9}, {"column 1 1;", 1, 9}, {"column x 1;", 1, 7},
        {"cross 1 wide 1 cycle 1 open 0 to 1 serve 1 cars 1;", 1, 35}, {"column 1x1;broken 0 for 1;", 1, 20},
        // a number out of its bounds
        {"road 9;", 2, 5}, {"road 1001;", 2, 5}, {"road 00100;", 2, 5}, {"road 99999999999999999999;", 2, 5},
        {"road 1 0;", 2, 5}, {"speed 0;", 2, 6}, {"speed 51;", 2, 6}, {"gap 51;", 2, 4}, {"start 1000;", 2, 6},
        {"cross 100 wide 1 cycle 1 open 0 to 1 cars 0 serve 1;", 2, 6},
        {"cross 0 wide 0 cycle 1 open 0 to 1 cars 0 serve 1;", 2, 13},
        {"cross 0 wide 51 cycle 1 open 0 to 1 cars 0 serve 1;", 2, 13},
        {"cross 51 wide 50 cycle 1 open 0 to 1 cars 0 serve 1;", 2, 14},
        {"cross 0 wide 1 cycle 0 open 0 to 1 cars 0 serve 1;", 2, 21},
        {"cross 0 wide 1 cycle 201 open 0 to 1 cars 0 serve 1;", 2, 21},
        {"cross 0 wide 1 cycle 5 open 5 to 5 cars 0 serve 1;", 2, 28},
        {"cross 0 wide 1 cycle 5 open 3 to 3 cars 0 serve 1;", 2, 33},
        {"cross 0 wide 1 cycle 5 open 3 to 6 cars 0 serve 1;", 2, 33},
        {"cross 0 wide 1 cycle 5 open 3 to 5 cars 100 serve 1;", 2, 40},
        {"cross 0 wide 1 cycle 5 open 3 to 5 cars 99 serve 0;", 2, 49},
        {"cross 0 wide 1 cycle 5 open 3 to 5 cars 99 serve 21;", 2, 49},
        {"cross10wide5cycle1open0to1cars0serve1;cross14wide1cycle1open0to1cars0serve1;", 2, 43},
        {"cross99wide1cycle1open0to1cars0serve1;cross99wide1cycle1open0to1cars0serve1;", 2, 43},
        {"column 0x1;", 2, 7}, {"column 31x1;", 2, 7}, {"column 1x0;", 2, 9}, {"column 1x31;", 2, 9},
        {"split 0;", 2, 6}, {"column 2x1;split 2;", 2, 17}, {"gather 0;", 2, 7}, {"gather 101;", 2, 7},
        {"gather 5;gather 5;", 2, 16}, {"gather 100;gather 101;", 2, 18}, {"broken 0 at 0 for 1;", 2, 7},
        {"column 2x1;broken 2 at 0 for 1;", 2, 18}, {"column 2x1;broken 1 at 2000 for 1;", 2, 23},
        {"column 2x1;broken 1 at 0 for 0;", 2, 29}, {"column 2x1;broken 1 at 0 for 501;", 2, 29},
        // too many, told again
        {TEN_CROSSINGS + "cross 50", 3, 370}, {"gather1;gather2;gather3;gather4;gather5;", 3, 32},
        {"column1x1;" + "broken0at0for1;".repeat(6) + "broken;", 3, 100}, {"column 30x5;column 1x5;", 3, 19},
        {"column 15 x 5 ; column 16 x 5 ?", 3, 23}, {"column 3x1;split 1;split 0;split 1;", 3, 33},
        // once both are read: a number out of its bounds comes ahead
        {"column 30x5;column 1x31;", 2, 21}, {"column 30x5;column 1;", 1, 20},
    };

    /** Texts without one, and how many LINES. */
    private static final Object[][] TAKEN = {
        {"", 0}, {"   ", 0}, {"road 10;", 1}, {"road 1000;", 1}, {"road0100;", 1}, {" road 100 ; ", 1},
        {"speed 1;", 1}, {"speed 50;", 1}, {"gap 0;gap", -31}, {"gap 50;", 1}, {"start 0;", 1}, {"start 999;", 1},
        {"speed 5;gap 1;start 2;road 50;", 4}, {"cross 99 wide 1 cycle 1 open 0 to 1 cars 0 serve 1;", 1},
        {"cross 50 wide 50 cycle 200 open 199 to 200 cars 99 serve 20;", 1}, {TEN_CROSSINGS, 10},
        {"cross10wide5cycle1open0to1cars0serve1;cross15wide1cycle1open0to1cars0serve1;", 2},
        {"column 30 x 30;", 1}, {"column15x1;column15x30;", 2}, {"column2x1;split1;", 2}, {"column2x1;split1;split0;column1x1;", 4},
        {"gather 1;gather 2;gather 3;gather 100;", 4}, {"column1x1;" + "broken0at1999for500;".repeat(6), 7},
        {"column1x1;speed 3;gap 3;start 3;", 4},
    };

    private static void newObject(Checks checks) {
        ConvoyTown x = new ConvoyTown();
        int[] due = {100, 10, 2, 0, 0, 0, 0, 0, 0, 0, 0, 0, 0, 0, -1};
        for (int what = 0; what < due.length; what++) {
            checks.due("new: count(" + what + ")", x.count(what), due[what]);
        }
        checks.due("new: fault(0)", x.fault(0), 0);
        checks.due("new: fault(1)", x.fault(1), -1);
        checks.due("new: end()", x.end(), 0);
        checks.due("new: undo()", x.undo(), -5);
    }

    private static void feeding(Checks checks) {
        ConvoyTown x = new ConvoyTown();
        for (int i = 1; i <= 30; i++) {
            checks.due("feed " + i, x.feed(i, 0, -1, Integer.MIN_VALUE, Integer.MAX_VALUE), 20 * i);
        }
        checks.due("31st feed", x.feed(0, 0, 0, 0, 0), -4);
        checks.due("count(13)", x.count(13), 600);
        checks.due("tell(601)", x.tell(601), -3);
        checks.due("tell(-1)", x.tell(-1), -3);
        checks.due("count(13) behind -3", x.count(13), 600);
        checks.due("fault(1) behind -3", x.fault(1), -1);
        checks.due("tell(0)", x.tell(0), 0);
        checks.due("count(13) behind tell", x.count(13), 0);
        checks.due("feed behind tell", x.feed(0, 0, 0, 0, 0), 20);
        ConvoyTown order = new ConvoyTown();
        order.feed(0x726f6164, 0x20313233, 0x3b676170, 0x20343b73, 0x70656564);
        order.feed(0x2035303b, 0x20202020, 0x20202020, 0x20202020, 0x20202020);
        checks.due("the highest byte first", order.tell(24), 3);
        checks.due("road 123", order.count(0), 123);
        checks.due("gap 4", order.count(2), 4);
        checks.due("speed 50", order.count(1), 50);
    }

    private static void faults(Checks checks) {
        for (Object[] row : FAULTS) {
            String text = (String) row[0];
            int which = (Integer) row[1];
            ConvoyTown x = Checks.told("road 77;speed 7;gap 7;start 7;column 3x7;split 1;");
            x.split(0);
            x.go(9);
            checks.due("tell " + text, Checks.tell(x, text), -30 - which);
            checks.due("fault(0) of " + text, x.fault(0), which);
            checks.due("fault(1) of " + text, x.fault(1), (Integer) row[2]);
            int[] stays = {77, 7, 7, 7, 0, 3, 3, 0, 0, 9, 0, 0, 1, 0};
            for (int what = 0; what < stays.length; what++) {
                checks.due("all stays: count(" + what + ") behind " + text, x.count(what), stays[what]);
            }
        }
    }

    private static void taken(Checks checks) {
        for (Object[] row : TAKEN) {
            ConvoyTown x = new ConvoyTown();
            checks.due("tell " + row[0], Checks.tell(x, (String) row[0]), (Integer) row[1]);
            checks.due("fault(0) of " + row[0], x.fault(0), (Integer) row[1] < 0 ? 1 : 0);
        }
    }

    private static void inPlace(Checks checks) {
        ConvoyTown x = Checks.told("road 77;speed 7;gap 7;start 7;cross0wide1cycle1open0to1cars0serve1;"
            + "column 3x7;split 1;gather 9;broken 0 at 5 for 5;");
        x.start(3);
        x.go(5);
        int[] first = {77, 7, 7, 3, 1, 3, 2, 1, 1, 5, 0, 1, 1, 0};
        for (int what = 0; what < first.length; what++) {
            checks.due("told: count(" + what + ")", x.count(what), first[what]);
        }
        Checks.feed(x, "column 1x9;; ; what is behind n is gone");
        checks.due("tell(11)", x.tell(11), 1);
        int[] then = {100, 10, 2, 0, 0, 1, 1, 0, 0, 0, 0, 0, 0, 0};
        for (int what = 0; what < then.length; what++) {
            checks.due("told anew: count(" + what + ")", x.count(what), then[what]);
        }
        checks.due("undo() behind tell", x.undo(), -5);
        checks.due("car(0, 2)", x.car(0, 2), 9);
        Checks.tell(x, "road 5;");
        checks.due("fault(0)", x.fault(0), 2);
        checks.due("fault(2)", x.fault(2), -1);
        checks.due("fault(-1)", x.fault(-1), -1);
        checks.due("tell(1), THE TAPE is empty", x.tell(1), -3);
        checks.due("fault(0) of the latest that emptied it", x.fault(0), 2);
        checks.due("tell(0)", x.tell(0), 0);
        checks.due("fault(0) of no byte", x.fault(0), 0);
        checks.due("fault(1) of no byte", x.fault(1), -1);
        checks.due("no CARS", x.count(5), 0);
        for (int i = 0; i < 2; i++) {
            checks.due("tell(0) again", x.tell(0), 0);
            int[] bare = {100, 10, 2, 0, 0, 0, 0, 0, 0, 0, 0, 0, 0, 0};
            for (int what = 0; what < bare.length; what++) {
                checks.due("bare: count(" + what + ")", x.count(what), bare[what]);
            }
        }
        Checks.tell(x, "column 3x7;");
        checks.due("no split is left", x.count(6), 1);
    }

    public static void main(String[] args) {
        Checks checks = new Checks();
        newObject(checks);
        feeding(checks);
        faults(checks);
        taken(checks);
        inPlace(checks);
        checks.finish();
    }
}
