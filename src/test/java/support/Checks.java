import java.nio.charset.StandardCharsets;

/** What every test of the project needs: texts onto THE TAPE, and answers that are due. */
final class Checks {
    private int wrong;
    private int made;

    void due(String call, long got, long want) {
        made++;
        if (got != want) {
            wrong++;
            System.out.println(call + " answered " + got + ", due is " + want);
        }
    }

    void finish() {
        System.out.println(wrong == 0 ? "all " + made + " answers are as due" : wrong + " of " + made + " answers are not as due");
        if (wrong != 0) {
            System.exit(1);
        }
    }

    static byte[] bytes(String text) {
        return text.getBytes(StandardCharsets.ISO_8859_1);
    }

    /** The five ints of a feed() that begins at a byte; behind the end there are zeros. */
    static int[] five(byte[] bytes, int from) {
        int[] ints = new int[5];
        for (int i = 0; i < 20; i++) {
            int value = from + i < bytes.length ? bytes[from + i] & 255 : 0;
            ints[i / 4] = ints[i / 4] << 8 | value;
        }
        return ints;
    }

    static void feed(ConvoyTown town, String text) {
        byte[] bytes = bytes(text);
        for (int from = 0; from < bytes.length; from += 20) {
            int[] f = five(bytes, from);
            town.feed(f[0], f[1], f[2], f[3], f[4]);
        }
    }

    static int tell(ConvoyTown town, String text) {
        feed(town, text);
        return town.tell(bytes(text).length);
    }

    /** A new object to which a text is told that has no FAULT. */
    static ConvoyTown told(String text) {
        ConvoyTown town = new ConvoyTown();
        int lines = tell(town, text);
        if (lines < 0) {
            throw new IllegalStateException(text + " has a fault: " + lines + " at " + town.fault(1));
        }
        return town;
    }
}
