/** Promises 5 to 9: split, start, broken, mended, undo. */
public final class ByHandTest {
    private static final String THREE = "road 100;speed 10;gap 2;column 3x4;";

    private static void splits(Checks checks) {
        ConvoyTown x = Checks.told(THREE);
        x.go(3);
        checks.due("split(-1)", x.split(-1), -2);
        checks.due("split(2), the last CAR", x.split(2), -2);
        checks.due("split(3)", x.split(3), -2);
        checks.due("refused: the RUN stays", x.count(9), 3);
        checks.due("refused: no ACT", x.count(12), 0);
        checks.due("split(1) comes", x.split(1), 2);
        checks.due("the RUN begins anew", x.count(9), 0);
        checks.due("split(0) comes", x.split(0), 3);
        checks.due("SECTION of CAR 2", x.car(2, 4), 2);
        checks.due("split(1) goes", x.split(1), 2);
        checks.due("SECTION of CAR 2", x.car(2, 4), 1);
        checks.due("LEAD of SECTION 1", x.section(1, 0), 1);
        checks.due("ACTS", x.count(12), 3);
        ConvoyTown last = Checks.told("column 2x4;split 1;");
        checks.due("a split behind the last CAR makes no SECTION", last.count(6), 1);
        ConvoyTown none = new ConvoyTown();
        checks.due("split(0) without CARS", none.split(0), -2);
    }

    private static void starts(Checks checks) {
        ConvoyTown x = Checks.told(THREE);
        x.go(2);
        checks.due("start(-1)", x.start(-1), -3);
        checks.due("start(1000)", x.start(1000), -3);
        checks.due("refused: the RUN stays", x.count(9), 2);
        checks.due("start(999)", x.start(999), 0);
        checks.due("START", x.count(3), 999);
        checks.due("the RUN begins anew", x.count(9), 0);
        checks.due("start(0)", x.start(0), 999);
        x.undo();
        checks.due("start(4)", x.start(4), 999);
        checks.due("start(4) as it was", x.start(4), 4);
        checks.due("that is an ACT too", x.count(12), 3);
        x.go(4);
        checks.due("not STARTED", x.car(0, 0), 100000);
        checks.due("WHY", x.car(0, 3), 1);
        x.go(1);
        checks.due("STARTED", x.car(0, 0), 100010);
    }

    private static void brokenOnes(Checks checks) {
        ConvoyTown x = Checks.told(THREE);
        x.go(2);
        checks.due("broken(3, 0, 1)", x.broken(3, 0, 1), -2);
        checks.due("broken(-1, 0, 1)", x.broken(-1, 0, 1), -2);
        checks.due("broken(3, -1, 0)", x.broken(3, -1, 0), -2);
        checks.due("broken(0, -1, 1)", x.broken(0, -1, 1), -3);
        checks.due("broken(0, 2000, 1)", x.broken(0, 2000, 1), -3);
        checks.due("broken(0, 0, 0)", x.broken(0, 0, 0), -3);
        checks.due("broken(0, 0, 501)", x.broken(0, 0, 501), -3);
        checks.due("refused: the RUN stays", x.count(9), 2);
        checks.due("broken(1, 2, 3)", x.broken(1, 2, 3), 1);
        checks.due("the RUN begins anew", x.count(9), 0);
        int[] why = {3, 3, 2, 2, 2, 3};
        for (int i = 0; i < why.length; i++) {
            x.go(1);
            checks.due("WHY of CAR 1 in TICK " + i, x.car(1, 3), why[i]);
        }
        checks.due("FRONT of CAR 1", x.car(1, 0), 100000 - 6 + 30);
        checks.due("CAR 2 waits behind it", x.car(2, 0), 100000 - 12 + 30);
        checks.due("broken(0, 1999, 500)", x.broken(0, 1999, 500), 2);
        for (int i = 3; i <= 6; i++) {
            checks.due("broken, number " + i, x.broken(0, 0, 1), i);
        }
        checks.due("a 7th", x.broken(0, 0, 1), -4);
        checks.due("a 7th, and a wrong TICK", x.broken(0, 2000, 1), -3);
        checks.due("how many", x.count(8), 6);
        checks.due("mended()", x.mended(), 5);
        checks.due("broken again", x.broken(2, 0, 1), 6);
    }

    private static void mendedOnes(Checks checks) {
        ConvoyTown x = Checks.told(THREE + "broken 0 at 0 for 2;broken 0 at 0 for 5;");
        checks.due("END", x.end(), 12 + 5);
        x.go(1);
        checks.due("mended(): the latest goes", x.mended(), 1);
        checks.due("the RUN begins anew", x.count(9), 0);
        checks.due("END", x.end(), 12 + 2);
        checks.due("mended()", x.mended(), 0);
        checks.due("END", x.end(), 12);
        checks.due("mended(), none", x.mended(), -5);
        checks.due("ACTS", x.count(12), 2);
        checks.due("undo()", x.undo(), 1);
        checks.due("END", x.end(), 12 + 2);
        checks.due("undo()", x.undo(), 0);
        checks.due("END", x.end(), 12 + 5);
        checks.due("undo(), none", x.undo(), -5);
    }

    private static void undone(Checks checks) {
        ConvoyTown x = Checks.told(THREE);
        for (int i = 1; i <= 12; i++) {
            x.start(i);
            checks.due("ACTS behind " + i, x.count(12), Math.min(i, 10));
        }
        x.go(7);
        for (int i = 9; i >= 0; i--) {
            checks.due("undo()", x.undo(), i);
            checks.due("START", x.count(3), i + 2);
            checks.due("the RUN begins anew", x.count(9), 0);
        }
        x.go(7);
        checks.due("undo(), none", x.undo(), -5);
        checks.due("refused: the RUN stays", x.count(9), 7);
        checks.due("START", x.count(3), 2);
        x.split(0);
        x.broken(1, 3, 4);
        x.mended();
        x.split(0);
        checks.due("SECTIONS", x.count(6), 1);
        checks.due("undo() of split", x.undo(), 3);
        checks.due("SECTIONS", x.count(6), 2);
        checks.due("undo() of mended", x.undo(), 2);
        checks.due("BROKEN", x.count(8), 1);
        x.go(4);
        checks.due("the one that was", x.car(1, 3), 2);
        checks.due("undo() of broken", x.undo(), 1);
        checks.due("BROKEN", x.count(8), 0);
        checks.due("undo() of split", x.undo(), 0);
        checks.due("SECTIONS", x.count(6), 1);
        x.broken(1, 3, 4);
        x.mended();
        for (int i = 0; i < 9; i++) {
            x.start(0);
        }
        for (int i = 9; i > 0; i--) {
            checks.due("undo() of start", x.undo(), i);
        }
        checks.due("undo() of mended, the oldest", x.undo(), 0);
        checks.due("BROKEN", x.count(8), 1);
        x.go(3);
        checks.due("not yet", x.car(1, 3), 3);
        x.go(4);
        checks.due("the one that was", x.car(1, 3), 2);
        x.go(1);
        checks.due("no more", x.car(1, 3), 3);
        x.again();
        x.tell(0);
        Checks.tell(x, THREE);
        x.split(0);
        Checks.tell(x, "road 5;");
        checks.due("a FAULT forgets no ACT", x.count(12), 1);
        Checks.tell(x, "road 50;");
        checks.due("a text that is taken does", x.undo(), -5);
    }

    public static void main(String[] args) {
        Checks checks = new Checks();
        splits(checks);
        starts(checks);
        brokenOnes(checks);
        mendedOnes(checks);
        undone(checks);
        checks.finish();
    }
}
