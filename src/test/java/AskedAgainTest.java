import java.util.ArrayList;
import java.util.List;

/** AS IF: "the whole RUN of what is told": asked ahead of and behind each change, as if it were never asked before. */
public final class AskedAgainTest {
    private interface Change {
        void on(ConvoyTown x);
    }

    private static final String TEXT = "road 120;speed 9;gap 2;start 1;cross 20 wide 5 cycle 19 open 2 to 8 cars 2 serve 3;"
        + "cross 60 wide 9 cycle 15 open 3 to 12 cars 1 serve 1;column 2x4;column 3x5;split 1;gather 50;broken 2 at 4 for 3;";

    /** Another one, in which CAR 0 is OUT for as long as can be, and a CROSSING isn't HELD at all. */
    private static final String OTHER = "road 50;speed 10;gap 0;cross 10 wide 10 cycle 30 open 20 to 29 cars 3 serve 2;"
        + "cross 40 wide 1 cycle 1 open 0 to 1 cars 1 serve 4;column 4x9;split 0;broken 3 at 30 for 400;";

    /** One that never ends: CAR 1 is too LONG for the CROSSING. */
    private static final String NEVER = "cross 30 wide 10 cycle 10 open 0 to 2 cars 3 serve 2;column 1x3;column 1x11;split 0;";

    private static final Checks CHECKS = new Checks();

    /** All that is asked AS IF, in some fifty calls. */
    private static List<String> asked(ConvoyTown x) {
        List<String> lines = new ArrayList<>();
        int last = x.count(5) - 1;
        lines.add("end() " + x.end());
        lines.add("waits(25) " + x.waits(25));
        lines.add("where(0, 12) " + x.where(0, 12));
        lines.add("where(" + last + ", 30) " + x.where(last, 30));
        lines.add("stretch(0) " + x.stretch(0));
        lines.add("stretch(1) " + x.stretch(1));
        lines.add("fewest() " + x.fewest());
        for (int k : new int[] {1, 2, 0}) {
            for (int what = 0; what <= k; what++) {
                lines.add("best(" + k + ", " + what + ") " + x.best(k, what));
            }
        }
        for (int n : new int[] {9, 60, 2}) {
            lines.add("bestStart(" + n + ", 0) " + x.bestStart(n, 0));
            lines.add("bestStart(" + n + ", 1) " + x.bestStart(n, 1));
            lines.add("smooth(" + n + ") " + x.smooth(n));
            lines.add("slowest(" + 12 * n + ") " + x.slowest(12 * n));
        }
        lines.add("harm(0, 3, 9) " + x.harm(0, 3, 9));
        lines.add("harm(" + last + ", 1, 30) " + x.harm(last, 1, 30));
        for (int why = 0; why <= 6; why++) {
            lines.add("held(0, " + why + ") " + x.held(0, why));
            lines.add("held(" + last + ", " + why + ") " + x.held(last, why));
        }
        for (int crossing = 0; crossing < 2; crossing++) {
            lines.add("longest(" + crossing + ") " + x.longest(crossing));
        }
        lines.add("marshals(4) " + x.marshals(4));
        lines.add("price(3, 7) " + x.price(3, 7));
        return lines;
    }

    private static ConvoyTown changed(List<Change> changes) {
        ConvoyTown x = new ConvoyTown();
        for (Change change : changes) {
            change.on(x);
        }
        return x;
    }

    /** One object asked behind each change, and one for each that is asked for the first time. */
    private static void compare(String name, Change... changes) {
        ConvoyTown old = new ConvoyTown();
        List<Change> done = new ArrayList<>();
        for (Change change : changes) {
            change.on(old);
            done.add(change);
            List<String> want = asked(changed(done));
            List<String> got = asked(old);
            for (int i = 0; i < want.size(); i++) {
                String where = name + ", change " + done.size() + ": ";
                CHECKS.due(where + got.get(i) + ", asked first " + want.get(i), got.get(i).equals(want.get(i)) ? 1 : 0, 1);
            }
        }
    }

    private static Change tell(String text) {
        return x -> Checks.tell(x, text);
    }

    /** What has to be asked for these tests to be of use: they are not all alike. */
    private static void differ() {
        String[] texts = {"", TEXT, OTHER, NEVER};
        for (int i = 0; i < texts.length; i++) {
            for (int k = 0; k < i; k++) {
                boolean alike = asked(Checks.told(texts[i])).equals(asked(Checks.told(texts[k])));
                CHECKS.due("text " + i + " and text " + k + " are alike", alike ? 1 : 0, 0);
            }
        }
    }

    public static void main(String[] args) {
        differ();
        compare("ACTS", tell(TEXT), x -> x.split(0), x -> x.start(7), x -> x.broken(4, 9, 60), x -> x.mended(), x -> x.split(0));
        compare("UNDONE", tell(TEXT), x -> x.mended(), x -> x.undo(), x -> x.start(30), x -> x.undo(), x -> x.split(1), x -> x.undo());
        compare("texts", tell(TEXT), tell(OTHER), tell(NEVER), tell(""), tell(OTHER), tell(TEXT), tell(NEVER));
        compare("FAULTS", tell(OTHER), tell(TEXT + "split 1;"), tell("gap 1;gap"), x -> x.tell(-1), x -> x.start(1000), x -> x.split(3));
        compare("the RUN", tell(TEXT), x -> x.go(7), x -> x.go(500), x -> x.again(), x -> x.go(2000), tell(OTHER));
        CHECKS.finish();
    }
}
