import java.util.function.IntToLongFunction;

/** Promises 1 to 19 and 34: each sentence that names a bound, the last value that is taken and the first that is not. */
public final class EdgesOfCallsTest {
    private static final Checks CHECKS = new Checks();
    private static final int LEAST = Integer.MIN_VALUE;
    private static final int MOST = Integer.MAX_VALUE;

    private static void due(String call, long got, long want) {
        CHECKS.due(call, got, want);
    }

    /** A number from least to most is taken, at both ends; beyond them the code is due. */
    private static void taken(String name, int least, int most, long code, IntToLongFunction call) {
        for (int n : new int[] {least, most}) {
            due(name + " of " + n + " is taken", call.applyAsLong(n) == code ? 0 : 1, 1);
        }
        for (int n : new int[] {least - 1, most + 1, LEAST, MOST}) {
            due(name + " of " + n, call.applyAsLong(n), code);
        }
    }

    /** As much as there can be: 10 CROSSINGS, 30 CARS, each a SECTION, but for the bytes of the splits. */
    private static ConvoyTown full() {
        StringBuilder text = new StringBuilder("road1000;speed9;gap0;");
        for (int i = 0; i < 10; i++) {
            text.append("cross").append(99 * i).append("wide9cycle99open0to98cars1serve1;");
        }
        ConvoyTown x = Checks.told(text + "column30x1;gather1;gather2;gather3;gather1000;" + "broken29at0for1;".repeat(6));
        for (int car = 0; car < 29; car++) {
            x.split(car);
        }
        return x;
    }

    /** 1: No LINES, as behind a text without any. */
    private static void newObject() {
        ConvoyTown told = new ConvoyTown();
        due("tell(0)", told.tell(0), 0);
        due("new: as if no LINE were told", Look.at(told, true).equals(Look.at(new ConvoyTown(), true)) ? 1 : 0, 1);
        int[] counts = {100, 10, 2, 0, 0, 0, 0, 0, 0, 0, 0, 0, 0, 0};
        for (int what = 0; what < counts.length; what++) {
            due("new: count(" + what + ")", new ConvoyTown().count(what), counts[what]);
        }
    }

    /** 2: twenty bytes, the highest of each int first; -4: it would have more than 600. */
    private static void feed() {
        for (int at = 0; at < 40; at++) {
            StringBuilder text = new StringBuilder(" ".repeat(40));
            text.setCharAt(at, (char) 255);
            ConvoyTown x = new ConvoyTown();
            Checks.feed(x, text.toString());
            due("tell(40)", x.tell(40), -31);
            due("a byte at " + at, x.fault(1), at);
        }
        ConvoyTown x = new ConvoyTown();
        for (int i = 1; i <= 30; i++) {
            due("feed " + i, x.feed(LEAST, MOST, -1, 0, 1), 20 * i);
        }
        for (int i = 0; i < 3; i++) {
            due("one more", x.feed(0, 0, 0, 0, 0), -4);
            due("bytes on THE TAPE", x.count(13), 600);
        }
        x.tell(0);
        due("bytes on THE TAPE that was emptied", x.count(13), 0);
        due("feed", x.feed(0, 0, 0, 0, 0), 20);
    }

    /** 3: the first n bytes of THE TAPE (which is empty then); -3: n is below 0, above what there is (THE TAPE stays). */
    private static void tell() {
        ConvoyTown none = new ConvoyTown();
        for (int n : new int[] {-1, 1, LEAST, MOST}) {
            due("tell(" + n + ") of no byte", none.tell(n), -3);
        }
        due("tell(0) of no byte", none.tell(0), 0);
        ConvoyTown x = new ConvoyTown();
        Checks.feed(x, "gap 1;gather 5;gap 2;");
        for (int n : new int[] {-1, 41, LEAST, MOST}) {
            due("tell(" + n + ") of 40", x.tell(n), -3);
            due("THE TAPE stays", x.count(13), 40);
        }
        due("tell(6)", x.tell(6), 1);
        due("gap", x.count(2), 1);
        due("THE TAPE is empty", x.count(13), 0);
        due("tell(1)", x.tell(1), -3);
        Checks.feed(x, "gap 3;gather 5;     ");
        due("tell(20), all there is", x.tell(20), 2);
        due("gap", x.count(2), 3);
        Checks.feed(x, "gap 4;");
        due("tell(0), of what there is", x.tell(0), 0);
        due("THE TAPE is empty", x.count(13), 0);
        due("gap without", x.count(2), 2);
        due("GATHERS", x.count(7), 0);
        Checks.feed(x, "gap 5;gap 6;");
        due("tell(12), a FAULT", x.tell(12), -31);
        due("THE TAPE is empty", x.count(13), 0);
        ConvoyTown most = new ConvoyTown();
        Checks.feed(most, "gap 7;" + " ".repeat(594));
        due("tell(601)", most.tell(601), -3);
        due("tell(600)", most.tell(600), 1);
        due("gap", most.count(2), 7);
    }

    /** 4: of the latest tell() that emptied THE TAPE (be it of no byte); NONE for others, and for place ahead of any. */
    private static void fault() {
        ConvoyTown x = new ConvoyTown();
        due("fault(0) ahead of any", x.fault(0), 0);
        due("fault(1) ahead of any", x.fault(1), -1);
        x.tell(1);
        due("fault(1) behind one that didn't", x.fault(1), -1);
        int[][] rows = {{1, 600}, {2, 4}, {1, 0}, {3, 27}};
        String[] texts = {"gap 1" + " ".repeat(595), "gap 51;", "?", "gather 1;column 2x1;split 1;split 1;"};
        rows[3][1] = texts[3].lastIndexOf('1');
        for (int i = 0; i < rows.length; i++) {
            Checks.tell(x, texts[i]);
            for (int n : new int[] {-1, 0, MOST, LEAST}) {
                if (n != 0) {
                    due("tell(" + n + ")", x.tell(n), -3);
                }
                due("fault(0) of " + texts[i], x.fault(0), rows[i][0]);
                due("fault(1) of " + texts[i], x.fault(1), rows[i][1]);
            }
            for (int what : new int[] {-1, 2, LEAST, MOST}) {
                due("fault(" + what + ")", x.fault(what), -1);
            }
        }
        due("tell(0)", x.tell(0), 0);
        due("fault(0) of no byte", x.fault(0), 0);
        due("fault(1) of no byte", x.fault(1), -1);
    }

    /** 5: a split behind a CAR (not the last one) comes, or goes. */
    private static void split() {
        taken("split() of 30 CARS", 0, 28, -2, n -> Checks.told("column 30x1;").split(n));
        taken("split() of 2 CARS", 0, 0, -2, n -> Checks.told("column 2x1;").split(n));
        due("split(0) of one CAR", Checks.told("column 1x1;").split(0), -2);
        due("split(0) without CARS", Checks.told("").split(0), -2);
        due("split(1), told behind the last", Checks.told("column 2x1;split 1;").split(1), -2);
        ConvoyTown x = Checks.told("column 30x1;split 29;");
        for (int car = 0; car < 29; car++) {
            due("split(" + car + ") comes", x.split(car), car + 2);
        }
        for (int car = 28; car >= 0; car--) {
            due("split(" + car + ") goes", x.split(car), car + 1);
        }
    }

    /** 6: START: what it was. */
    private static void start() {
        taken("start()", 0, 999, -3, n -> Checks.told("column 1x1;").start(n));
        ConvoyTown x = new ConvoyTown();
        due("start(999) without CARS", x.start(999), 0);
        due("start(0)", x.start(0), 999);
        due("start(0)", x.start(0), 0);
        due("ACTS", x.count(12), 3);
    }

    /** 7: -2; -3: the TICK, how many; -4: there are 6. 8: -5: there is none. */
    private static void brokenAndMended() {
        taken("broken() of CAR", 0, 29, -2, n -> Checks.told("column 30x1;").broken(n, 0, 1));
        taken("broken() at", 0, 1999, -3, n -> Checks.told("column 1x1;").broken(0, n, 1));
        taken("broken() for", 1, 500, -3, n -> Checks.told("column 1x1;").broken(0, 0, n));
        ConvoyTown x = Checks.told("column 2x1;");
        due("mended(), none", x.mended(), -5);
        for (int i = 1; i <= 6; i++) {
            due("broken()", x.broken(1, 1999, 500), i);
        }
        due("a 7th", x.broken(0, 0, 1), -4);
        due("a 7th of no CAR", x.broken(2, 0, 1), -2);
        due("a 7th at no TICK", x.broken(0, 2000, 1), -3);
        due("a 7th for no TICK", x.broken(0, 0, 0), -3);
        due("of no CAR at no TICK", x.broken(-1, -1, 0), -2);
        for (int i = 5; i >= 0; i--) {
            due("mended()", x.mended(), i);
        }
        due("mended(), none", x.mended(), -5);
        due("ACTS", x.count(12), 10);
        ConvoyTown told = Checks.told("column 1x1;" + "broken 0 at 0 for 1;".repeat(6));
        due("a 7th, told by THE TEXT", told.broken(0, 0, 1), -4);
        due("mended()", told.mended(), 5);
        due("a 6th", told.broken(0, 0, 1), 6);
        due("undo()", told.undo(), 1);
        due("a 6th", told.broken(0, 0, 1), 6);
        due("a 7th", told.broken(0, 0, 1), -4);
    }

    /** 9: the latest 10 can be UNDONE; -5: none can. */
    private static void undo() {
        due("undo() of a new object", new ConvoyTown().undo(), -5);
        for (int many = 1; many <= 12; many++) {
            ConvoyTown x = Checks.told("column 2x1;");
            for (int i = 1; i <= many; i++) {
                x.start(i);
            }
            int can = Math.min(many, 10);
            for (int i = can - 1; i >= 0; i--) {
                due("undo() of " + many, x.undo(), i);
                due("START", x.count(3), many - can + i);
            }
            due("undo(), one more", x.undo(), -5);
            due("START stays", x.count(3), many - can);
            // an ACT behind what was UNDONE
            due("start(77)", x.start(77), many - can);
            due("ACTS", x.count(12), 1);
            due("undo()", x.undo(), 0);
            due("START", x.count(3), many - can);
        }
        kindsOfActs();
        ConvoyTown forgets = Checks.told("column 2x1;");
        forgets.split(0);
        due("a FAULT forgets no ACT", Checks.tell(forgets, "?"), -31);
        due("ACTS", forgets.count(12), 1);
        due("tell(-1) forgets no ACT", forgets.tell(-1), -3);
        due("ACTS", forgets.count(12), 1);
        due("a text of no byte forgets them", forgets.tell(0), 0);
        due("ACTS", forgets.count(12), 0);
        due("undo()", forgets.undo(), -5);
    }

    /** Each kind of ACT, as the oldest of ten, of eleven; even if all is as it was; refused calls are none. */
    private static void kindsOfActs() {
        for (int kind = 0; kind < 4; kind++) {
            for (int later = 9; later <= 10; later++) {
                ConvoyTown x = Checks.told("column 3x1;split 1;start 5;broken 1 at 2 for 3;");
                switch (kind) {
                    case 0: x.split(1); break;
                    case 1: x.start(7); break;
                    case 2: x.broken(0, 0, 1); break;
                    default: x.mended(); break;
                }
                for (int i = 0; i < later; i++) {
                    x.start(x.count(3));
                    x.split(2);
                    x.go(3);
                    x.again();
                }
                due("ACTS", x.count(12), 10);
                x.go(4);
                for (int i = 9; i >= 0; i--) {
                    due("undo()", x.undo(), i);
                    due("the RUN begins anew", x.count(9), 0);
                    x.go(1);
                }
                boolean isBack = later == 9;
                due("SECTIONS", x.count(6), isBack || kind != 0 ? 2 : 1);
                due("START", x.count(3), isBack || kind != 1 ? 5 : 7);
                due("BROKEN", x.count(8), isBack || kind < 2 ? 1 : kind == 2 ? 2 : 0);
                due("ACTS", x.count(12), 0);
            }
        }
    }

    /** 10: n TICKS (0 to 2000), no further than 2000 in all. 11: how many TICKS there were. */
    private static void goAndAgain() {
        taken("go()", 0, 2000, -3, n -> new ConvoyTown().go(n));
        ConvoyTown x = Checks.told("column 1x1;");
        due("again() ahead of any", x.again(), 0);
        due("go(0)", x.go(0), 0);
        due("go(1)", x.go(1), 1);
        due("go(0)", x.go(0), 1);
        due("go(1998)", x.go(1998), 1999);
        due("go(2001), refused", x.go(2001), -3);
        due("go(2)", x.go(2), 2000);
        due("go(0)", x.go(0), 2000);
        due("go(1)", x.go(1), 2000);
        due("go(2000)", x.go(2000), 2000);
        due("TICKS", x.count(9), 2000);
        due("again()", x.again(), 2000);
        due("TICKS", x.count(9), 0);
        due("again()", x.again(), 0);
        due("go(2000)", x.go(2000), 2000);
        ConvoyTown none = new ConvoyTown();
        due("go(1999) without LINES", none.go(1999), 1999);
        due("go(2000) without LINES", none.go(2000), 2000);
        due("again() without LINES", none.again(), 2000);
    }

    /** 12 to 15: -2, there is none such: CAR, CROSSING, SECTION, EVENT, what. */
    private static void ofTheRun() {
        ConvoyTown x = full();
        x.go(2000);
        taken("car(n, 0)", 0, 29, -2, n -> x.car(n, 0));
        taken("car(29, n)", 0, 5, -2, n -> x.car(29, n));
        taken("crossing(n, 0)", 0, 9, -2, n -> x.crossing(n, 0));
        taken("crossing(9, n)", 0, 7, -2, n -> x.crossing(9, n));
        taken("section(n, 0)", 0, 29, -2, n -> x.section(n, 0));
        taken("section(29, n)", 0, 3, -2, n -> x.section(29, n));
        taken("event(n, 0)", 0, 199, -2, n -> x.event(n, 0));
        taken("event(199, n)", 0, 3, -2, n -> x.event(199, n));
        ConvoyTown one = Checks.told("cross 0 wide 1 cycle 1 open 0 to 1 cars 0 serve 1;column 1x1;");
        one.go(1);
        taken("car(n, 5) of one", 0, 0, -2, n -> one.car(n, 5));
        taken("crossing(n, 7) of one", 0, 0, -2, n -> one.crossing(n, 7));
        taken("section(n, 3) of one", 0, 0, -2, n -> one.section(n, 3));
        // ENTERS and LEAVES
        taken("event(n, 3) of two", 0, 1, -2, n -> one.event(n, 3));
        ConvoyTown none = new ConvoyTown();
        for (int n : new int[] {-1, 0, 1, LEAST, MOST}) {
            due("car(" + n + ", 0) of none", none.car(n, 0), -2);
            due("crossing(" + n + ", 0) of none", none.crossing(n, 0), -2);
            due("section(" + n + ", 0) of none", none.section(n, 0), -2);
            due("event(" + n + ", 0) of none", none.event(n, 0), -2);
        }
        // a SECTION that goes is none such any more
        ConvoyTown two = Checks.told("column 2x1;split 0;");
        due("section(1, 0)", two.section(1, 0), 1);
        two.split(0);
        due("section(1, 0), gone", two.section(1, 0), -2);
    }

    /** 16 to 18: -2; -3: the TICK (0 to 1999); NONE: in none (by 2000). */
    private static void passing() {
        ConvoyTown x = full();
        taken("need(n, 9)", 0, 29, -2, n -> x.need(n, 9));
        taken("need(29, n)", 0, 9, -2, n -> x.need(29, n));
        taken("pass(n, 9, 0)", 0, 29, -2, n -> x.pass(n, 9, 0));
        taken("pass(29, n, 0)", 0, 9, -2, n -> x.pass(29, n, 0));
        taken("pass(29, 9, n)", 0, 1999, -3, n -> x.pass(29, 9, n));
        taken("open(n, 0)", 0, 9, -2, n -> x.open(n, 0));
        taken("open(9, n)", 0, 1999, -3, n -> x.open(9, n));
        due("pass(30, 9, 2000)", x.pass(30, 9, 2000), -2);
        due("pass(29, 10, 2000)", x.pass(29, 10, 2000), -2);
        due("open(10, 2000)", x.open(10, 2000), -2);
        // OPEN in TICKS 0 to 97 of 99: NEED 2
        int[][] passes = {{0, 0}, {96, 96}, {97, 99}, {98, 99}, {99, 99}, {1979, 1980}, {1999, 1999}};
        for (int[] row : passes) {
            due("pass(0, 0, " + row[0] + ")", x.pass(0, 0, row[0]), row[1]);
        }
        int[][] opens = {{0, 1}, {97, 1}, {98, 0}, {99, 1}, {1978, 1}, {1979, 0}, {1980, 1}, {1999, 1}};
        for (int[] row : opens) {
            due("open(0, " + row[0] + ")", x.open(0, row[0]), row[1]);
        }
        String[] last = {"cycle 200 open 199 to 200", "cycle 200 open 0 to 1", "cycle 200 open 198 to 199"};
        int[][] due = {
            // open(1799), open(1999), pass from 1800, pass from 1999
            {1, 1, 1999, 1999}, {0, 0, 1800, -1}, {0, 0, 1998, -1},
        };
        for (int i = 0; i < last.length; i++) {
            ConvoyTown y = Checks.told("speed 2;cross 0 wide 1 " + last[i] + " cars 0 serve 1;column 1x1;");
            due(last[i] + ": open(0, 1799)", y.open(0, 1799), due[i][0]);
            due(last[i] + ": open(0, 1999)", y.open(0, 1999), due[i][1]);
            due(last[i] + ": pass(0, 0, 1800)", y.pass(0, 0, 1800), due[i][2]);
            due(last[i] + ": pass(0, 0, 1999)", y.pass(0, 0, 1999), due[i][3]);
        }
        // NEED reaches over TICK 2000: 4 of the TICKS 1999 to 2004
        ConvoyTown over = Checks.told("speed 1;cross 0 wide 1 cycle 199 open 9 to 15 cars 0 serve 1;column 1x3;");
        due("need(0, 0)", over.need(0, 0), 4);
        due("pass(0, 0, 1999)", over.pass(0, 0, 1999), 1999);
        ConvoyTown none = new ConvoyTown();
        due("need(0, 0) of none", none.need(0, 0), -2);
        due("pass(0, 0, 0) of none", none.pass(0, 0, 0), -2);
        due("open(0, 0) of none", none.open(0, 0), -2);
        due("window(0, NONE, 0) of none", none.window(0, -1, 0), -2);
        ConvoyTown noCars = Checks.told("cross 0 wide 1 cycle 1 open 0 to 1 cars 0 serve 1;");
        due("need(0, 0) without CARS", noCars.need(0, 0), -2);
        due("pass(0, 0, 0) without CARS", noCars.pass(0, 0, 0), -2);
        due("open(0, 0) without CARS", noCars.open(0, 0), 1);
        due("window(0, NONE, 0) without CARS", noCars.window(0, -1, 0), 1);
    }

    /** 19: WINDOWS that begin below TICK 2000; what is OPEN up to 2000 and beyond is one that ends there. */
    private static void window() {
        int[][] rows = {
            // cycle, a, b, how many, the last one's first TICK, its TICKS, the first one's
            {1, 0, 1, 1, 0, 2000, 2000}, {200, 0, 200, 1, 0, 2000, 2000}, {7, 0, 7, 1, 0, 2000, 2000},
            {200, 0, 1, 10, 1800, 1, 1}, {200, 199, 200, 10, 1999, 1, 1},
            {200, 0, 199, 10, 1800, 199, 199}, {200, 1, 200, 10, 1801, 199, 199},
            {2, 0, 1, 1000, 1998, 1, 1}, {2, 1, 2, 1000, 1999, 1, 1},
            // 10 times 199 are 1990
            {199, 8, 10, 11, 1998, 2, 2}, {199, 9, 10, 11, 1999, 1, 1}, {199, 9, 11, 11, 1999, 1, 2},
            {199, 8, 199, 11, 1998, 2, 191}, {199, 10, 11, 10, 1801, 1, 1}, {199, 10, 199, 10, 1801, 189, 189},
            {199, 0, 10, 11, 1990, 10, 10}, {199, 0, 9, 11, 1990, 9, 9}, {199, 0, 11, 11, 1990, 10, 11},
        };
        for (int[] row : rows) {
            String text = "cross 0 wide 1 cycle " + row[0] + " open " + row[1] + " to " + row[2] + " cars 0 serve 1;";
            ConvoyTown x = Checks.told(text);
            int many = row[3];
            due(text + " WINDOWS", x.window(0, -1, 0), many);
            due(text + " WINDOWS, what isn't asked", x.window(0, -1, LEAST), many);
            due(text + " WINDOWS, what isn't asked", x.window(0, -1, MOST), many);
            due(text + " the first begins", x.window(0, 0, 0), row[1]);
            due(text + " the first has", x.window(0, 0, 1), row[6]);
            due(text + " the last begins", x.window(0, many - 1, 0), row[4]);
            due(text + " the last has", x.window(0, many - 1, 1), row[5]);
            due(text + " one more begins", x.window(0, many, 0), -1);
            due(text + " one more has", x.window(0, many, 1), -1);
            due(text + " the most", x.window(0, MOST, 0), -1);
            due(text + " the most", x.window(0, MOST, 1), -1);
        }
        ConvoyTown x = full();
        taken("window(n, 0, 0)", 0, 9, -2, n -> x.window(n, 0, 0));
        taken("window(9, 0, n)", 0, 1, -2, n -> x.window(9, 0, n));
        for (int k : new int[] {-2, LEAST}) {
            due("window(9, " + k + ", 0)", x.window(9, k, 0), -3);
            due("window(9, " + k + ", 2)", x.window(9, k, 2), -2);
            due("window(10, " + k + ", 0)", x.window(10, k, 0), -2);
        }
        due("window(9, most, 2), ahead of NONE", x.window(9, MOST, 2), -2);
        due("window(10, NONE, 0)", x.window(10, -1, 0), -2);
    }

    /** 34: NONE for others; each of them at its least and its most. */
    private static void count() {
        ConvoyTown none = new ConvoyTown();
        taken("count()", 0, 13, -1, n -> none.count(n));
        ConvoyTown x = full();
        x.go(2000);
        for (int i = 0; i < 31; i++) {
            x.feed(0, 0, 0, 0, 0);
        }
        int[] most = {1000, 9, 0, 0, 10, 30, 30, 4, 6, 2000, 30, 200, 10, 600};
        for (int what = 0; what < most.length; what++) {
            due("full: count(" + what + ")", x.count(what), most[what]);
        }
        due("full: count(14)", x.count(14), -1);
    }

    public static void main(String[] args) {
        newObject();
        feed();
        tell();
        fault();
        split();
        start();
        brokenAndMended();
        undo();
        goAndAgain();
        ofTheRun();
        passing();
        window();
        count();
        CHECKS.finish();
    }
}
