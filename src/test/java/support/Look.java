import java.util.ArrayList;
import java.util.List;

/**
 * All that other calls show of an object, as lines "call: answer"; and then what is hidden: how the
 * RUN goes on, what can be undone, which bytes THE TAPE has. Two objects with the same calls ahead
 * show the same lines. It is within the 512 calls of an object, if that has few CARS.
 */
final class Look {
    private final ConvoyTown town;
    private final int crossings;
    private final int cars;
    private final int sections;
    private final int events;
    private final List<String> lines = new ArrayList<>();

    private Look(ConvoyTown town) {
        this.town = town;
        crossings = town.count(4);
        cars = town.count(5);
        sections = town.count(6);
        events = Math.min(12, town.count(11));
    }

    /** Looks, and uses the object up. */
    static List<String> at(ConvoyTown town, boolean withFault) {
        Look look = new Look(town);
        if (withFault) {
            look.fault();
        }
        look.counts();
        look.run();
        look.passing();
        look.asIf();
        look.goOn();
        look.takeBack();
        look.readTape();
        return look.lines;
    }

    private void saw(String call, long answer) {
        lines.add(call + ": " + answer);
    }

    private void fault() {
        saw("fault(0)", town.fault(0));
        saw("fault(1)", town.fault(1));
    }

    private void counts() {
        for (int what = 0; what <= 13; what++) {
            saw("count(" + what + ")", town.count(what));
        }
    }

    private void run() {
        for (int car = 0; car < cars; car++) {
            for (int what = 0; what <= 5; what++) {
                saw("car(" + car + ", " + what + ")", town.car(car, what));
            }
        }
        for (int crossing = 0; crossing < crossings; crossing++) {
            for (int what = 0; what <= 7; what++) {
                saw("crossing(" + crossing + ", " + what + ")", town.crossing(crossing, what));
            }
        }
        for (int section = 0; section < sections; section++) {
            for (int what = 0; what <= 3; what++) {
                saw("section(" + section + ", " + what + ")", town.section(section, what));
            }
        }
        for (int event = 0; event < events; event++) {
            for (int what = 0; what <= 3; what++) {
                saw("event(" + event + ", " + what + ")", town.event(event, what));
            }
        }
    }

    private void passing() {
        for (int crossing = 0; crossing < crossings; crossing++) {
            saw("open(" + crossing + ", 3)", town.open(crossing, 3));
            saw("window(" + crossing + ", 1, 0)", town.window(crossing, 1, 0));
            saw("window(" + crossing + ", 1, 1)", town.window(crossing, 1, 1));
            for (int section = 0; section < sections; section++) {
                saw("need(" + section + ", " + crossing + ")", town.need(section, crossing));
                saw("pass(" + section + ", " + crossing + ", 3)", town.pass(section, crossing, 3));
            }
        }
    }

    private void asIf() {
        saw("end()", town.end());
        saw("waits(30)", town.waits(30));
        saw("stretch(0)", town.stretch(0));
        saw("stretch(1)", town.stretch(1));
        saw("fewest()", town.fewest());
        saw("smooth(9)", town.smooth(9));
        saw("slowest(40)", town.slowest(40));
        saw("marshals(3)", town.marshals(3));
        saw("price(3, 7)", town.price(3, 7));
        saw("bestStart(9, 0)", town.bestStart(9, 0));
        saw("bestStart(9, 1)", town.bestStart(9, 1));
        for (int what = 0; what <= 2; what++) {
            saw("best(2, " + what + ")", town.best(2, what));
        }
        for (int crossing = 0; crossing < crossings; crossing++) {
            saw("longest(" + crossing + ")", town.longest(crossing));
        }
        for (int car = 0; car < Math.min(3, cars); car++) {
            saw("where(" + car + ", 12)", town.where(car, 12));
            saw("harm(" + car + ", 3, 9)", town.harm(car, 3, 9));
            for (int why = 0; why <= 6; why++) {
                saw("held(" + car + ", " + why + ")", town.held(car, why));
            }
        }
    }

    private void goOn() {
        saw("go(5)", town.go(5));
        for (int car = 0; car < cars; car++) {
            saw("behind go(5): car(" + car + ", 0)", town.car(car, 0));
            saw("behind go(5): car(" + car + ", 3)", town.car(car, 3));
        }
        for (int crossing = 0; crossing < crossings; crossing++) {
            for (int what = 0; what <= 7; what++) {
                saw("behind go(5): crossing(" + crossing + ", " + what + ")", town.crossing(crossing, what));
            }
        }
    }

    private void takeBack() {
        for (int i = 0; i < 11; i++) {
            saw("undo() " + i, town.undo());
            saw("behind undo() " + i + ": count(3)", town.count(3));
            saw("behind undo() " + i + ": count(6)", town.count(6));
            saw("behind undo() " + i + ": end()", town.end());
        }
        for (int i = 0; i < 7; i++) {
            saw("mended() " + i, town.mended());
            saw("behind mended() " + i + ": end()", town.end());
        }
    }

    private void readTape() {
        saw("tell of all", town.tell(town.count(13)));
        fault();
        counts();
    }
}
