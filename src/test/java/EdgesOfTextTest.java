import java.util.ArrayList;
import java.util.List;

/** The document's 'Terms', THE TEXT: each sentence that names a bound, at both of its ends. */
public final class EdgesOfTextTest {
    private static final Checks CHECKS = new Checks();
    private static final String ALWAYS = "wide1cycle1open0to1cars0serve1;";

    /** A text without a FAULT; the object to which it was told. */
    private static ConvoyTown taken(String text, int lines) {
        ConvoyTown x = new ConvoyTown();
        CHECKS.due("tell " + text, Checks.tell(x, text), lines);
        CHECKS.due("fault(0) of " + text, x.fault(0), 0);
        CHECKS.due("fault(1) of " + text, x.fault(1), -1);
        return x;
    }

    private static void faulty(String text, int fault, int place) {
        ConvoyTown x = new ConvoyTown();
        CHECKS.due("tell " + text, Checks.tell(x, text), -30 - fault);
        CHECKS.due("fault(0) of " + text, x.fault(0), fault);
        CHECKS.due("fault(1) of " + text, x.fault(1), place);
    }

    /** A number at the sign # of a text: the last ones that are taken, the first ones that are not. */
    private static void bounds(String text, int least, int most) {
        int place = text.indexOf('#');
        int lines = text.length() - text.replace(";", "").length();
        taken(text.replace("#", "" + least), lines);
        taken(text.replace("#", "" + most), lines);
        taken(text.replace("#", String.format("%04d", least)), lines);
        taken(text.replace("#", String.format("%04d", most)), lines);
        faulty(text.replace("#", "" + (most + 1)), 2, place);
        faulty(text.replace("#", "9999"), 2, place);
        faulty(text.replace("#", String.format("%05d", most)), 2, place);
        faulty(text.replace("#", "4294967296" + least), 2, place);
        faulty(text.replace("#", "?"), 1, place);
        faulty(text.replace("#", "-" + least), 1, place);
        if (least > 0) {
            faulty(text.replace("#", "" + (least - 1)), 2, place);
            faulty(text.replace("#", "0000"), 2, place);
        }
    }

    /** road: LENGTH (10 to 1000 meters; 100 without), ahead of all others but speed, gap, start. */
    private static void road() {
        bounds("road #;", 10, 1000);
        CHECKS.due("LENGTH without", taken("", 0).count(0), 100);
        CHECKS.due("LENGTH 10", taken("road 10;", 1).count(0), 10);
        CHECKS.due("LENGTH 1000", taken("road 1000;", 1).count(0), 1000);
        taken("speed 1;gap 1;start 1;road 10;", 4);
        faulty("cross1" + ALWAYS + "road 10;", 1, 37);
        faulty("column 1x1;road 10;", 1, 11);
        faulty("gather 1;road 10;", 1, 9);
        faulty("column 1x1;split 0;road 10;", 1, 19);
        faulty("column 1x1;broken 0 at 0 for 1;road 10;", 1, 31);
        // at the word, and ahead of a number that is wrong as well
        faulty("column 1x1;road 9;", 1, 11);
        faulty("column 1x1;speed 5;road", 1, 19);
    }

    /** speed: V (1 to 50; 10 without). gap: 0 to 50 (2). start: 0 to 999; 0. */
    private static void speedGapStart() {
        bounds("speed #;", 1, 50);
        bounds("gap #;", 0, 50);
        bounds("start #;", 0, 999);
        ConvoyTown none = taken("", 0);
        ConvoyTown least = taken("speed 1;gap 0;start 0;", 3);
        ConvoyTown most = taken("column 1x1;speed 50;gap 50;start 999;", 4);
        int[][] due = {{10, 1, 50}, {2, 0, 50}, {0, 0, 999}};
        for (int what = 1; what <= 3; what++) {
            CHECKS.due("without: count(" + what + ")", none.count(what), due[what - 1][0]);
            CHECKS.due("least: count(" + what + ")", least.count(what), due[what - 1][1]);
            CHECKS.due("most: count(" + what + ")", most.count(what), due[what - 1][2]);
        }
    }

    /** Each of these four once: a second time, at the word, whatever follows. */
    private static void once() {
        for (String line : new String[] {"road 10;", "speed 1;", "gap 0;", "start 0;"}) {
            String word = line.substring(0, line.indexOf(' '));
            faulty(line + line, 1, line.length());
            faulty(line + "  " + word, 1, line.length() + 2);
            faulty(line + "gather 9;" + word + " 9999;", 1, line.length() + 9);
        }
        taken("road 10;speed 1;gap 0;start 0;", 4);
        taken("start 0;gap 0;speed 1;road 10;", 4);
    }

    /** cross: CROSSINGS, at most 10. */
    private static void tenCrossings() {
        StringBuilder text = new StringBuilder();
        for (int i = 0; i < 10; i++) {
            text.append("cross").append(i).append(ALWAYS);
            CHECKS.due("CROSSINGS", taken(text.toString(), i + 1).count(4), i + 1);
        }
        // an 11th: at the word, be it right or wrong behind it
        faulty(text + "cross10" + ALWAYS, 3, text.length());
        faulty(text + "cross", 3, text.length());
        faulty(text + " cross 9999", 3, text.length() + 1);
        taken(text + "gather 1;", 11);
    }

    /** A place P (0 to LENGTH less 1, no less than the end of the one ahead). */
    private static void places() {
        bounds("cross#" + ALWAYS, 0, 99);
        bounds("road 10;cross#" + ALWAYS, 0, 9);
        bounds("road 1000;cross#" + ALWAYS, 0, 999);
        bounds("cross20wide7cycle1open0to1cars0serve1;cross#" + ALWAYS, 27, 99);
        // the end of the one ahead is LENGTH: no place is left
        String last = "road 10;cross9" + ALWAYS;
        for (int place = 0; place <= 10; place++) {
            faulty(last + "cross" + place + ALWAYS, 2, last.length() + 5);
        }
    }

    /** WIDE (1 to 50; P and WIDE no more than LENGTH: its end). */
    private static void wides() {
        bounds("cross0wide#cycle1open0to1cars0serve1;", 1, 50);
        bounds("cross50wide#cycle1open0to1cars0serve1;", 1, 50);
        bounds("cross51wide#cycle1open0to1cars0serve1;", 1, 49);
        bounds("cross99wide#cycle1open0to1cars0serve1;", 1, 1);
        bounds("road 10;cross0wide#cycle1open0to1cars0serve1;", 1, 10);
        bounds("road 1000;cross950wide#cycle1open0to1cars0serve1;", 1, 50);
    }

    /** A CYCLE (1 to 200), a 0 to CYCLE less 1, b a and 1 to CYCLE. */
    private static void cycles() {
        bounds("cross0wide1cycle#open0to1cars0serve1;", 1, 200);
        bounds("cross0wide1cycle1open#to1cars0serve1;", 0, 0);
        bounds("cross0wide1cycle200open#to200cars0serve1;", 0, 199);
        bounds("cross0wide1cycle7open3to#cars0serve1;", 4, 7);
        bounds("cross0wide1cycle7open6to#cars0serve1;", 7, 7);
        bounds("cross0wide1cycle200open0to#cars0serve1;", 1, 200);
        bounds("cross0wide1cycle200open199to#cars0serve1;", 200, 200);
    }

    /** Cars 0 to 99, serve 1 to 20. */
    private static void streets() {
        bounds("cross0wide1cycle1open0to1cars#serve1;", 0, 99);
        bounds("cross0wide1cycle1open0to1cars0serve#;", 1, 20);
    }

    /** column: so many CARS (1 to 30; at most 30 in all) so LONG (1 to 30). */
    private static void columns() {
        bounds("column#x1;", 1, 30);
        bounds("column1x#;", 1, 30);
        ConvoyTown ends = taken("column1x1;column1x30;", 2);
        CHECKS.due("LONG 1", ends.car(0, 2), 1);
        CHECKS.due("LONG 30", ends.car(1, 2), 30);
        CHECKS.due("30 CARS at once", taken("column30x30;", 1).count(5), 30);
        CHECKS.due("30 CARS one by one", taken("column1x1;".repeat(30), 30).count(5), 30);
        CHECKS.due("29 and 1", taken("column29x2;column1x3;", 2).count(5), 30);
        // more than 30: at its first number
        faulty("column1x1;".repeat(31), 3, 306);
        faulty("column29x2;column2x3;", 3, 17);
        faulty("column30x1; column 30 x 30 ;", 3, 19);
        // once both are read, be it right or wrong behind these
        faulty("column30x1;column1x1", 3, 17);
        faulty("column30x1;column1x1 1", 3, 17);
        faulty("column30x1;column1x", 1, 19);
        faulty("column30x1;column1y1;", 1, 18);
        faulty("column30x1;column1x31;", 2, 19);
        faulty("column30x1;column31x1;", 2, 17);
    }

    /** split: behind that CAR (one that was told ahead; it need not be the last one by then; once each). */
    private static void splits() {
        bounds("column 5x1;split #;", 0, 4);
        faulty("split 0;column 1x1;", 2, 6);
        faulty("column 2x1;split 2;column 1x1;", 2, 17);
        CHECKS.due("the last one by then", taken("column 2x1;split 1;column 1x1;", 3).count(6), 2);
        CHECKS.due("not the last one by then", taken("column 3x1;split 0;", 2).count(6), 2);
        CHECKS.due("backwards", taken("column 3x1;split 1;split 0;", 3).count(6), 3);
        faulty("column 3x1;split 1;split 1;", 3, 25);
        faulty("column 3x1;split 1;column 1x1;split 0001;", 3, 36);
        faulty("column 1x1;split 0;split 0", 3, 25);
        // as many as there are CARS
        StringBuilder all = new StringBuilder("column30x1;");
        for (int car = 0; car < 30; car++) {
            all.append("split").append(car).append(';');
        }
        CHECKS.due("a SECTION for each CAR", taken(all.toString(), 31).count(6), 30);
        faulty(all + "split29;", 3, all.length() + 5);
    }

    /** gather: GATHERS, at most 4: a place 1 to LENGTH, above that of the one ahead. */
    private static void gathers() {
        bounds("gather #;", 1, 100);
        bounds("road 10;gather #;", 1, 10);
        bounds("road 1000;gather #;", 1, 1000);
        bounds("gather 50;gather #;", 51, 100);
        bounds("gather 99;gather #;", 100, 100);
        faulty("gather 100;gather 100;", 2, 18);
        CHECKS.due("GATHERS", taken("", 0).count(7), 0);
        CHECKS.due("GATHERS", taken("gather 1;gather 2;gather 3;gather 4;", 4).count(7), 4);
        // a 5th: at the word
        faulty("gather 1;gather 2;gather 3;gather 4;gather 5;", 3, 36);
        faulty("gather 1;gather 2;gather 3;gather 4;gather", 3, 36);
        faulty("gather 1;gather 2;gather 3;gather 100;gather 1;", 3, 38);
    }

    /** broken: at most 6: a CAR (told ahead), from a TICK (0 to 1999) on for so many (1 to 500). */
    private static void brokens() {
        bounds("column 5x1;broken # at 0 for 1;", 0, 4);
        bounds("column 1x1;broken 0 at # for 1;", 0, 1999);
        bounds("column 1x1;broken 0 at 0 for #;", 1, 500);
        faulty("broken 0 at 0 for 1;column 1x1;", 2, 7);
        String six = "column 1x1;" + "broken0at0for1;".repeat(6);
        CHECKS.due("BROKEN", taken(six, 7).count(8), 6);
        CHECKS.due("BROKEN", taken("column 1x1;", 1).count(8), 0);
        faulty(six + "broken0at0for1;", 3, six.length());
        faulty(six + "broken", 3, six.length());
    }

    /** Numbers (digits, as long as they go on), words (small letters, likewise), other bytes one by one; blanks. */
    private static void signs() {
        taken("column1x1;split0;", 2);
        taken("  column  1  x  1  ;  split  0  ;  ", 2);
        taken("road0010;", 1);
        faulty("road 1 0;", 2, 5);
        faulty("road 10 0;", 1, 8);
        faulty("ro ad 10;", 1, 0);
        faulty("roadroad 10;", 1, 0);
        faulty("column 1x1;broken 0 a t 0 for 1;", 1, 20);
        faulty("column 1x1;broken 0 atfor 0;", 1, 20);
        // each byte that isn't a digit, a small letter, a blank or a semicolon, wherever it stands
        for (int sign = 0; sign < 256; sign++) {
            boolean isLetter = sign >= 'a' && sign <= 'z';
            boolean isDigit = sign >= '0' && sign <= '9';
            char c = (char) sign;
            if (sign == ' ') {
                taken(c + "gap" + c + "5" + c + ";" + c, 1);
                continue;
            }
            if (sign == ';') {
                taken("gap 5" + c, 1);
            } else {
                faulty("gap 5 " + c, 1, 6);
            }
            if (!isLetter && !isDigit) {
                faulty("gap" + c + "5;", 1, 3);
            }
            if (!isLetter) {
                faulty(c + "gap 5;", 1, 0);
            }
            faulty("gap 5;" + c, 1, 6);
        }
    }

    /** FAULTS, the first along THE TEXT (of one place the least); the end: how many bytes there are. */
    private static void firstFault() {
        faulty("gap 51;gap", 2, 4);
        faulty("gap 51?", 2, 4);
        faulty("gap 50?gap 51;", 1, 6);
        // a number of five digits where none can stand
        faulty("00001;", 1, 0);
        faulty("gap 1 00001;", 1, 6);
        // a number that is the byte of what should stand there
        faulty("gap 1 59;", 1, 6);
        faulty("column 1 120 1;", 1, 9);
        // a word that can't stand there, with a number that is wrong
        faulty("gaps 51;", 1, 0);
        // the end
        faulty("gap", 1, 3);
        faulty("gap ", 1, 4);
        faulty("gap 1", 1, 5);
        faulty("gap 1   ", 1, 8);
        faulty("gap 51", 2, 4);
        // what is behind the n bytes isn't of THE TEXT
        ConvoyTown x = new ConvoyTown();
        Checks.feed(x, "gap 1;gap 2;");
        CHECKS.due("tell(5)", x.tell(5), -31);
        CHECKS.due("fault(1): how many bytes there are", x.fault(1), 5);
        Checks.feed(x, "gap 12;");
        CHECKS.due("tell(5): a number is cut", x.tell(5), -31);
        Checks.feed(x, "gap 51;");
        CHECKS.due("tell(6)", x.tell(6), -32);
        Checks.feed(x, "gap 1;gap 2;");
        CHECKS.due("tell(6)", x.tell(6), 1);
        CHECKS.due("gap", x.count(2), 1);
        // each text that is cut somewhere within a LINE ends too soon
        String line = "cross 10 wide 2 cycle 30 open 4 to 5 cars 6 serve 7;";
        for (int n = 1; n < line.length(); n++) {
            ConvoyTown cut = new ConvoyTown();
            Checks.feed(cut, line);
            CHECKS.due("the first " + n + " bytes of " + line, cut.tell(n) < -30 ? 1 : 0, 1);
        }
    }

    /** THE TEXT is in place of all that was told ahead; the RUN begins anew. */
    private static void inPlace() {
        List<ConvoyTown> olds = new ArrayList<>();
        olds.add(new ConvoyTown());
        ConvoyTown full = taken("road 1000;speed 50;gap 50;start 999;cross0" + ALWAYS + "column30x30;split3;gather7;broken3at4for5;", 9);
        full.split(4);
        full.go(2000);
        olds.add(full);
        ConvoyTown bare = taken("", 0);
        bare.go(2000);
        olds.add(bare);
        String[] texts = {"", " ", "road 10;speed 1;gap 0;column 2x1;", "cross99wide1cycle200open199to200cars99serve20;"};
        for (ConvoyTown old : olds) {
            for (String text : texts) {
                int lines = text.length() - text.replace(";", "").length();
                ConvoyTown fresh = taken(text, lines);
                CHECKS.due("tell " + text, Checks.tell(old, text), lines);
                for (int what = 0; what <= 13; what++) {
                    CHECKS.due("in place: count(" + what + ") of " + text, old.count(what), fresh.count(what));
                }
                CHECKS.due("in place: end() of " + text, old.end(), fresh.end());
                CHECKS.due("in place: waits(9) of " + text, old.waits(9), fresh.waits(9));
                old.go(3);
            }
        }
    }

    /** A LINE has as many words and numbers as it has, in their order: each one missing, or doubled. */
    private static void wholeLines() {
        String[] lines = {"road 10 ;", "speed 1 ;", "gap 1 ;", "start 1 ;", "cross 1 wide 1 cycle 1 open 0 to 1 cars 1 serve 1 ;",
            "column 1 x 1 ;", "split 0 ;", "gather 1 ;", "broken 0 at 0 for 1 ;"};
        for (String line : lines) {
            String ahead = line.startsWith("split") || line.startsWith("broken") ? "column 1x1;" : "";
            String[] parts = line.split(" ");
            int place = ahead.length();
            for (int i = 0; i < parts.length; i++) {
                StringBuilder without = new StringBuilder(ahead);
                StringBuilder twice = new StringBuilder(ahead);
                for (int k = 0; k < parts.length; k++) {
                    without.append(k == i ? "" : parts[k] + " ");
                    twice.append(k == i ? parts[k] + " " + parts[k] + " " : parts[k] + " ");
                }
                if (i < parts.length - 1) {
                    faulty(without.toString(), 1, place);
                } else {
                    faulty(without.toString(), 1, without.length());
                }
                faulty(twice.toString(), 1, place + parts[i].length() + 1);
                place += parts[i].length() + 1;
            }
        }
    }

    public static void main(String[] args) {
        road();
        speedGapStart();
        once();
        tenCrossings();
        places();
        wides();
        cycles();
        streets();
        columns();
        splits();
        gathers();
        brokens();
        signs();
        firstFault();
        inPlace();
        wholeLines();
        CHECKS.finish();
    }
}
