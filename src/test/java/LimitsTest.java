/** As much of everything as there can be, and numbers that can't be: no call throws, and all answers are due. */
public final class LimitsTest {
    private static final int[] ODD = {Integer.MIN_VALUE, Integer.MIN_VALUE + 1, -100000, -2, -1, 0, 1, 2, 5, 9, 10, 29, 30, 31,
        60, 61, 199, 200, 500, 501, 999, 1000, 1999, 2000, 2001, Integer.MAX_VALUE - 1, Integer.MAX_VALUE};

    /** 600 bytes: 10 CROSSINGS, 30 CARS, a split behind the last, 4 GATHERS, 6 BROKEN. */
    private static String full() {
        StringBuilder text = new StringBuilder("road1000;speed9;gap0;");
        for (int i = 0; i < 10; i++) {
            text.append("cross").append(100 * i).append("wide9cycle99open0to99cars1serve1;");
        }
        text.append("column30x1;split29;gather5;gather15;gather25;gather1000;");
        for (int i = 0; i < 6; i++) {
            text.append("broken").append(29 - i).append("at").append(i).append("for9;");
        }
        while (text.length() < 599) {
            text.append(' ');
        }
        return text + " ";
    }

    private static void full(Checks checks) {
        String text = full();
        checks.due("bytes", text.length(), 600);
        ConvoyTown x = new ConvoyTown();
        checks.due("tell(600)", Checks.tell(x, text), 25);
        int[] due = {1000, 9, 0, 0, 10, 30, 1, 4, 6, 0, 0, 0, 0, 0};
        for (int what = 0; what < due.length; what++) {
            checks.due("count(" + what + ")", x.count(what), due[what]);
        }
        for (int car = 0; car < 29; car++) {
            checks.due("split(" + car + ")", x.split(car), car + 2);
        }
        checks.due("ACTS", x.count(12), 10);
        x.go(2000);
        checks.due("OUT", x.count(10), 30);
        checks.due("EVENTS", x.count(11), 200);
        checks.due("need(29, 9)", x.need(29, 9), 2);
        checks.due("LEAD of the last", x.section(29, 0), 29);
        checks.due("HELD no more", x.crossing(9, 4), -1);
        int end = x.end();
        checks.due("there is THE END", end > 0 ? 1 : 0, 1);
        checks.due("where it ends", x.where(29, end), x.car(29, 0));
        checks.due("waits of all", x.waits(2000), sum(x));
        checks.due("fewest()", x.fewest(), 0);
        checks.due("best(2, 0)", x.best(2, 0), x.best(1, 0));
        checks.due("smooth(60)", x.smooth(60), 0);
        checks.due("harm behind THE END", x.harm(29, 1999, 500), 100000);
        checks.due("longest(9)", x.longest(9) > 0 ? 1 : 0, 1);
        checks.due("marshals(50)", x.marshals(50) > 0 ? 1 : 0, 1);
        checks.due("held in all", heldInAll(x, 29), end);
        // a word and a number that go on up to the 600th byte
        checks.due("tell", Checks.tell(x, "x".repeat(600)), -31);
        checks.due("fault(1)", x.fault(1), 0);
        checks.due("tell", Checks.tell(x, "road" + "1".repeat(596)), -32);
        checks.due("fault(1)", x.fault(1), 4);
        checks.due("tell", Checks.tell(x, " ".repeat(600)), 0);
    }

    private static int sum(ConvoyTown x) {
        int all = 0;
        for (int i = 0; i < 10; i++) {
            all += x.crossing(i, 1);
        }
        return all;
    }

    private static int heldInAll(ConvoyTown x, int car) {
        int all = 0;
        for (int why = 0; why < 7; why++) {
            all += x.held(car, why);
        }
        return all;
    }

    /** Each call with each odd number in each place; it must answer, and stay as it is if it refuses. */
    private static void odd(Checks checks, String text) {
        ConvoyTown x = Checks.told(text);
        for (int a : ODD) {
            for (int b : ODD) {
                x.car(a, b);
                x.crossing(a, b);
                x.section(a, b);
                x.event(a, b);
                x.need(a, b);
                x.open(a, b);
                x.held(a, b);
                x.where(a, b);
                x.price(a, b);
                x.best(a, b);
                x.bestStart(a, b);
                x.pass(a, 0, b);
                x.pass(0, a, b);
                x.window(a, b, 0);
                x.window(0, a, b);
                x.harm(a, b, 1);
                x.harm(0, a, b);
                x.broken(a, 0, b);
            }
            x.fault(a);
            x.count(a);
            x.waits(a);
            x.stretch(a);
            x.smooth(a);
            x.slowest(a);
            x.longest(a);
            x.marshals(a);
            if (a != 0) {
                x.tell(a);
            }
            x.split(a);
            x.start(a);
            x.go(a);
            checks.due("no more than 2000", x.count(9) <= 2000 ? 1 : 0, 1);
        }
    }

    public static void main(String[] args) {
        Checks checks = new Checks();
        full(checks);
        odd(checks, "");
        odd(checks, "cross 1 wide 1 cycle 1 open 0 to 1 cars 0 serve 1;");
        odd(checks, "cross 1 wide 1 cycle 10 open 3 to 4 cars 2 serve 1;column 3x5;split 2;split 0;");
        checks.finish();
    }
}
