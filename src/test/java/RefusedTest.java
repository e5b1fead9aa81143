import java.util.ArrayList;
import java.util.List;

/** "Refused calls answer by a code and change nothing": each, in several states, with all that other calls show. */
public final class RefusedTest {
    private interface Call {
        long on(ConvoyTown x);
    }

    private interface Maker {
        ConvoyTown make();
    }

    private static final int LEAST = Integer.MIN_VALUE;
    private static final int MOST = Integer.MAX_VALUE;

    private final Checks checks = new Checks();
    private String state = "";
    private Maker maker = ConvoyTown::new;
    private List<String> shown = new ArrayList<>();

    private static final String THREE = "road 100;speed 10;gap 2;start 1;cross 20 wide 5 cycle 9 open 2 to 8 cars 2 serve 3;"
        + "cross 60 wide 9 cycle 5 open 0 to 5 cars 1 serve 1;column 2x4;column 1x9;split 0;gather 50;broken 2 at 4 for 3;";

    /** In the midst of a RUN, with ACTS that can be undone, a FAULT, and bytes on THE TAPE. */
    private static ConvoyTown inTheMidst() {
        ConvoyTown x = Checks.told(THREE);
        Checks.tell(x, "road 9;");
        x.split(1);
        x.start(2);
        x.broken(0, 5, 2);
        x.go(9);
        Checks.feed(x, "speed 7;column 2x3;split 0;");
        return x;
    }

    /** As full as it can be: THE TAPE, the ACTS, those BROKEN; no TICK is left. */
    private static ConvoyTown full() {
        ConvoyTown x = Checks.told(THREE);
        for (int i = 1; i <= 5; i++) {
            x.start(i);
            x.broken(i % 3, 10 * i, i);
        }
        x.go(2000);
        Checks.feed(x, "road 50;column 1x1;gather 7;" + " ".repeat(572));
        return x;
    }

    /** CROSSINGS, but no CAR. */
    private static ConvoyTown withoutCars() {
        ConvoyTown x = Checks.told("cross 20 wide 5 cycle 9 open 2 to 8 cars 2 serve 3;");
        x.go(7);
        return x;
    }

    private void in(String name, Maker how) {
        state = name;
        maker = how;
        shown = Look.at(how.make(), true);
        // the dearest state is made by some 60 calls, and an object is used for 512
        checks.due(state + ": few enough calls", shown.size() < 440 ? 1 : 0, 1);
        same(state + ": two alike", Look.at(how.make(), true), shown);
    }

    private void refused(String name, long code, Call call) {
        ConvoyTown x = maker.make();
        checks.due(state + ": " + name, call.on(x), code);
        same(state + ": behind " + name, Look.at(x, true), shown);
        ConvoyTown y = maker.make();
        call.on(y);
        checks.due(state + ": a second " + name, call.on(y), code);
    }

    private void same(String where, List<String> got, List<String> want) {
        checks.due(where + ": as many lines", got.size(), want.size());
        for (int i = 0; i < Math.min(got.size(), want.size()); i++) {
            if (!got.get(i).equals(want.get(i))) {
                checks.due(where + ": " + got.get(i) + ", ahead of it " + want.get(i), 1, 0);
                return;
            }
        }
    }

    /** A text with a FAULT: "THE TAPE is empty then; nothing else changes" (but what fault() tells). */
    private void faulty(String text, int fault, int place) {
        ConvoyTown x = maker.make();
        ConvoyTown y = maker.make();
        clearTape(x);
        clearTape(y);
        checks.due(state + ": tell " + text, Checks.tell(x, text), -30 - fault);
        checks.due(state + ": fault(0) of " + text, x.fault(0), fault);
        checks.due(state + ": fault(1) of " + text, x.fault(1), place);
        checks.due(state + ": THE TAPE behind " + text, x.count(13), 0);
        same(state + ": behind tell " + text, Look.at(x, false), Look.at(y, false));
    }

    /** Empties THE TAPE by a FAULT of its first byte, so that all else stays. */
    private static void clearTape(ConvoyTown x) {
        if (x.count(13) == 0) {
            x.feed(0, 0, 0, 0, 0);
        }
        x.tell(1);
    }

    private void numbers(int... odd) {
        for (int n : odd) {
            refused("go(" + n + ")", -3, x -> x.go(n));
            refused("waits(" + n + ")", -3, x -> x.waits(n));
        }
    }

    private void everywhere() {
        numbers(-1, 2001, LEAST, MOST);
        for (int n : new int[] {-1, LEAST, MOST}) {
            refused("tell(" + n + ")", -3, x -> x.tell(n));
            refused("split(" + n + ")", -2, x -> x.split(n));
            refused("broken(" + n + ", 0, 1)", -2, x -> x.broken(n, 0, 1));
            refused("harm(" + n + ", 0, 1)", -2, x -> x.harm(n, 0, 1));
            refused("car(" + n + ", 0)", -2, x -> x.car(n, 0));
            refused("crossing(" + n + ", 0)", -2, x -> x.crossing(n, 0));
            refused("section(" + n + ", 0)", -2, x -> x.section(n, 0));
            refused("event(" + n + ", 0)", -2, x -> x.event(n, 0));
            refused("need(" + n + ", 0)", -2, x -> x.need(n, 0));
            refused("pass(0, " + n + ", 0)", -2, x -> x.pass(0, n, 0));
            refused("open(" + n + ", 0)", -2, x -> x.open(n, 0));
            refused("window(" + n + ", 0, 0)", -2, x -> x.window(n, 0, 0));
            refused("where(" + n + ", 0)", -2, x -> x.where(n, 0));
            refused("held(" + n + ", 0)", -2, x -> x.held(n, 0));
            refused("longest(" + n + ")", -2, x -> x.longest(n));
        }
        refused("tell of one more than there is", -3, x -> x.tell(x.count(13) + 1));
        for (int n : new int[] {-1, 1000, LEAST, MOST}) {
            refused("start(" + n + ")", -3, x -> x.start(n));
        }
        for (int n : new int[] {0, 51, -1, LEAST, MOST}) {
            refused("marshals(" + n + ")", -3, x -> x.marshals(n));
        }
        refused("price(-1, 0)", -3, x -> x.price(-1, 0));
        refused("price(0, -1)", -3, x -> x.price(0, -1));
        refused("price(least, most)", -3, x -> x.price(Long.MIN_VALUE, Long.MAX_VALUE));
        faulty("x", 1, 0);
        faulty("road 20;column 2x2;split 0;gather 9;broken 1 at 1 for 1", 1, 55);
        faulty("road 20;column 2x2;split 0;gather 9;broken 1 at 1 for 0;", 2, 54);
        faulty("road 20;start 9;column 2x2;split 0;split 0;", 3, 41);
    }

    private void withCars() {
        refused("split(2), the last CAR", -2, x -> x.split(2));
        refused("split(3)", -2, x -> x.split(3));
        refused("broken(3, 0, 1)", -2, x -> x.broken(3, 0, 1));
        for (int n : new int[] {-1, 2000, LEAST, MOST}) {
            refused("broken(0, " + n + ", 1)", -3, x -> x.broken(0, n, 1));
            refused("harm(0, " + n + ", 1)", -3, x -> x.harm(0, n, 1));
            refused("pass(0, 0, " + n + ")", -3, x -> x.pass(0, 0, n));
            refused("open(0, " + n + ")", -3, x -> x.open(0, n));
        }
        for (int n : new int[] {0, 501, -1, LEAST, MOST}) {
            refused("broken(0, 0, " + n + ")", -3, x -> x.broken(0, 0, n));
            refused("harm(0, 0, " + n + ")", -3, x -> x.harm(0, 0, n));
        }
        for (int n : new int[] {-1, LEAST, MOST}) {
            refused("car(0, " + n + ")", -2, x -> x.car(0, n));
            refused("crossing(0, " + n + ")", -2, x -> x.crossing(0, n));
            refused("section(0, " + n + ")", -2, x -> x.section(0, n));
            refused("event(0, " + n + ")", -2, x -> x.event(0, n));
            refused("need(0, " + n + ")", -2, x -> x.need(0, n));
            refused("window(0, 0, " + n + ")", -2, x -> x.window(0, 0, n));
            refused("held(0, " + n + ")", -2, x -> x.held(0, n));
            refused("stretch(" + n + ")", -2, x -> x.stretch(n));
            refused("best(0, " + n + ")", -2, x -> x.best(0, n));
            refused("bestStart(0, " + n + ")", -2, x -> x.bestStart(0, n));
        }
        refused("window(0, -2, 0)", -3, x -> x.window(0, -2, 0));
        refused("window(0, least, 0)", -3, x -> x.window(0, LEAST, 0));
        for (int n : new int[] {-1, 2001, LEAST, MOST}) {
            refused("where(0, " + n + ")", -3, x -> x.where(0, n));
            refused("slowest(" + n + ")", -3, x -> x.slowest(n));
        }
        for (int n : new int[] {-1, 61, LEAST, MOST}) {
            refused("bestStart(" + n + ", 0)", -3, x -> x.bestStart(n, 0));
            refused("smooth(" + n + ")", -3, x -> x.smooth(n));
        }
        for (int n : new int[] {-1, 3, LEAST, MOST}) {
            refused("best(" + n + ", 0)", -3, x -> x.best(n, 0));
        }
    }

    private void nothingThere() {
        refused("stretch(0)", -5, x -> x.stretch(0));
        refused("fewest()", -5, x -> x.fewest());
        refused("best(0, 0)", -5, x -> x.best(0, 0));
        refused("bestStart(0, 0)", -5, x -> x.bestStart(0, 0));
        refused("smooth(0)", -5, x -> x.smooth(0));
        refused("slowest(0)", -5, x -> x.slowest(0));
        refused("mended()", -5, x -> x.mended());
        refused("undo()", -5, x -> x.undo());
        refused("split(0)", -2, x -> x.split(0));
        refused("broken(0, 0, 1)", -2, x -> x.broken(0, 0, 1));
        refused("section(0, 0)", -2, x -> x.section(0, 0));
        refused("need(0, 0)", -2, x -> x.need(0, 0));
        refused("pass(0, 0, 0)", -2, x -> x.pass(0, 0, 0));
    }

    private void tooMany() {
        refused("feed", -4, x -> x.feed(0x726f6164, 0x20313233, 0x3b676170, 0x20343b73, 0x70656564));
        refused("broken(0, 0, 1)", -4, x -> x.broken(0, 0, 1));
        refused("broken(2, 1999, 500)", -4, x -> x.broken(2, 1999, 500));
    }

    public static void main(String[] args) {
        RefusedTest test = new RefusedTest();
        test.in("in the midst", RefusedTest::inTheMidst);
        test.everywhere();
        test.withCars();
        test.in("full", RefusedTest::full);
        test.everywhere();
        test.withCars();
        test.tooMany();
        test.in("without CARS", RefusedTest::withoutCars);
        test.everywhere();
        test.nothingThere();
        test.in("new", ConvoyTown::new);
        test.everywhere();
        test.nothingThere();
        test.checks.finish();
    }
}
