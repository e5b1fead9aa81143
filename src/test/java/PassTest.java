/** Promises 16 to 19: need, pass, open, window. */
public final class PassTest {
    private static final String TWO = "road 100;speed 10;gap 2;cross 30 wide 10 cycle 20 open 5 to 9 cars 1 serve 1;"
        + "cross 50 wide 5 cycle 7 open 0 to 7 cars 0 serve 1;cross 60 wide 1 cycle 150 open 100 to 150 cars 0 serve 1;"
        + "column 2x10;column 1x18;split 1;";

    public static void main(String[] args) {
        Checks checks = new Checks();
        needs(checks);
        passes(checks);
        opens(checks);
        windows(checks);
        checks.finish();
    }

    private static void needs(Checks checks) {
        ConvoyTown x = Checks.told(TWO);
        // EXTENTS 22 and 18
        checks.due("need(0, 0)", x.need(0, 0), 4);
        checks.due("need(1, 0)", x.need(1, 0), 3);
        checks.due("need(0, 1)", x.need(0, 1), 3);
        checks.due("need(1, 2)", x.need(1, 2), 2);
        checks.due("need(2, 0)", x.need(2, 0), -2);
        checks.due("need(0, 3)", x.need(0, 3), -2);
        checks.due("need(-1, 0)", x.need(-1, 0), -2);
        checks.due("need(0, -1)", x.need(0, -1), -2);
        x.split(1);
        // 42 and 10, 5, 1
        checks.due("need(0, 0) of all", x.need(0, 0), 6);
        checks.due("need(0, 2) of all", x.need(0, 2), 5);
        checks.due("need(1, 0), no such SECTION", x.need(1, 0), -2);
    }

    private static void passes(Checks checks) {
        ConvoyTown x = Checks.told(TWO);
        checks.due("pass(0, 0, 0)", x.pass(0, 0, 0), 5);
        checks.due("pass(0, 0, 5)", x.pass(0, 0, 5), 5);
        checks.due("pass(0, 0, 6)", x.pass(0, 0, 6), 25);
        checks.due("pass(1, 0, 6)", x.pass(1, 0, 6), 6);
        checks.due("pass(1, 0, 7)", x.pass(1, 0, 7), 25);
        checks.due("pass(0, 1, 1234), always OPEN", x.pass(0, 1, 1234), 1234);
        checks.due("pass(0, 1, 1999)", x.pass(0, 1, 1999), 1999);
        checks.due("pass(1, 2, 0)", x.pass(1, 2, 0), 100);
        checks.due("pass(1, 2, 148)", x.pass(1, 2, 148), 148);
        checks.due("pass(1, 2, 149)", x.pass(1, 2, 149), 250);
        checks.due("pass(0, 0, 1985)", x.pass(0, 0, 1985), 1985);
        checks.due("pass(0, 0, 1986), none by 2000", x.pass(0, 0, 1986), -1);
        checks.due("pass(0, 0, -1)", x.pass(0, 0, -1), -3);
        checks.due("pass(0, 0, 2000)", x.pass(0, 0, 2000), -3);
        checks.due("pass(2, 0, 2000)", x.pass(2, 0, 2000), -2);
        checks.due("pass(0, 3, 0)", x.pass(0, 3, 0), -2);
        x.split(1);
        checks.due("pass(0, 0, 0), never", x.pass(0, 0, 0), -1);
        ConvoyTown short1 = Checks.told("cross 0 wide 1 cycle 200 open 0 to 100 cars 0 serve 1;column 1x1;");
        checks.due("TICK 2000 would let it", short1.pass(0, 0, 1900), -1);
        checks.due("TICK 1899 lets it", short1.pass(0, 0, 1899), 1899);
    }

    private static void opens(Checks checks) {
        ConvoyTown x = Checks.told(TWO);
        int[][] due = {{0, 0}, {4, 0}, {5, 1}, {8, 1}, {9, 0}, {19, 0}, {25, 1}, {1988, 1}, {1989, 0}, {1999, 0}};
        for (int[] row : due) {
            checks.due("open(0, " + row[0] + ")", x.open(0, row[0]), row[1]);
        }
        checks.due("open(1, 1999)", x.open(1, 1999), 1);
        checks.due("open(0, -1)", x.open(0, -1), -3);
        checks.due("open(0, 2000)", x.open(0, 2000), -3);
        checks.due("open(3, 0)", x.open(3, 0), -2);
        checks.due("open(-1, 2000)", x.open(-1, 2000), -2);
    }

    private static void windows(Checks checks) {
        ConvoyTown x = Checks.told(TWO);
        checks.due("window(0, NONE, 0)", x.window(0, -1, 0), 100);
        checks.due("window(0, NONE, 9), what isn't asked", x.window(0, -1, 9), 100);
        checks.due("window(0, 0, 0)", x.window(0, 0, 0), 5);
        checks.due("window(0, 0, 1)", x.window(0, 0, 1), 4);
        checks.due("window(0, 99, 0)", x.window(0, 99, 0), 1985);
        checks.due("window(0, 99, 1)", x.window(0, 99, 1), 4);
        checks.due("window(0, 100, 0)", x.window(0, 100, 0), -1);
        checks.due("window(0, 100, 1)", x.window(0, 100, 1), -1);
        checks.due("window(1, NONE, 0), always OPEN", x.window(1, -1, 0), 1);
        checks.due("window(1, 0, 0)", x.window(1, 0, 0), 0);
        checks.due("window(1, 0, 1)", x.window(1, 0, 1), 2000);
        checks.due("window(1, 1, 1)", x.window(1, 1, 1), -1);
        checks.due("window(2, NONE, 0)", x.window(2, -1, 0), 13);
        checks.due("window(2, 12, 0)", x.window(2, 12, 0), 1900);
        checks.due("window(2, 12, 1)", x.window(2, 12, 1), 50);
        checks.due("window(3, 0, 0)", x.window(3, 0, 0), -2);
        checks.due("window(-1, -2, 0)", x.window(-1, -2, 0), -2);
        checks.due("window(0, 0, 2)", x.window(0, 0, 2), -2);
        checks.due("window(0, 0, -1)", x.window(0, 0, -1), -2);
        checks.due("window(0, -2, 2)", x.window(0, -2, 2), -2);
        checks.due("window(0, -2, 0)", x.window(0, -2, 0), -3);
        ConvoyTown whole = Checks.told("cross 0 wide 1 cycle 10 open 0 to 5 cars 0 serve 1;cross 1 wide 1 cycle 10 open 9 to 10 cars 0 serve 1;");
        checks.due("window(0, NONE, 0)", whole.window(0, -1, 0), 200);
        checks.due("window(1, NONE, 0)", whole.window(1, -1, 0), 200);
        checks.due("window(1, 199, 0)", whole.window(1, 199, 0), 1999);
        checks.due("window(1, 199, 1)", whole.window(1, 199, 1), 1);
        ConvoyTown cut = Checks.told("cross 0 wide 1 cycle 97 open 10 to 90 cars 0 serve 1;");
        // 20 cycles are 1940: the 21st begins at 1950, and is cut off at 2000
        checks.due("window(0, NONE, 0)", cut.window(0, -1, 0), 21);
        checks.due("window(0, 20, 0)", cut.window(0, 20, 0), 1950);
        checks.due("window(0, 20, 1)", cut.window(0, 20, 1), 50);
        checks.due("window(0, 19, 1)", cut.window(0, 19, 1), 80);
    }
}
