import java.util.Random;

/** Texts as they may come: most of them without a FAULT, of all sizes. */
final class RandomTexts {
    private final Random random;

    RandomTexts(long seed) {
        random = new Random(seed);
    }

    private int from(int least, int most) {
        return least + random.nextInt(most - least + 1);
    }

    private boolean oneIn(int n) {
        return random.nextInt(n) == 0;
    }

    String next(int mostCars) {
        StringBuilder text = new StringBuilder();
        int length = oneIn(4) ? from(10, 1000) : from(40, 300);
        int speed = oneIn(6) ? from(1, 50) : from(4, 20);
        text.append("road ").append(length).append(';');
        text.append("speed ").append(speed).append(';');
        if (oneIn(2)) {
            text.append("gap ").append(oneIn(4) ? from(0, 50) : from(0, 5)).append(';');
        }
        if (oneIn(2)) {
            text.append("start ").append(oneIn(5) ? from(0, 999) : from(0, 30)).append(';');
        }
        int mostCrossings = oneIn(5) ? 10 : 4;
        addCrossings(text, from(0, mostCrossings), length);
        int cars = addCars(text, mostCars);
        addRest(text, cars, length);
        return text.toString();
    }

    private void addCrossings(StringBuilder text, int many, int length) {
        int least = 0;
        for (int i = 0; i < many && least < length; i++) {
            int place = Math.min(length - 1, least + from(0, Math.max(1, length / (many + 1))));
            int wide = from(1, Math.min(oneIn(4) ? 50 : 12, length - place));
            int cycle = oneIn(8) ? from(1, 5) : from(10, oneIn(3) ? 200 : 60);
            int a = oneIn(2) ? 0 : from(0, cycle - 1);
            int b = oneIn(3) ? cycle : from(a + 1, cycle);
            text.append("cross ").append(place).append(" wide ").append(wide).append(" cycle ").append(cycle)
                .append(" open ").append(a).append(" to ").append(b)
                .append(" cars ").append(oneIn(5) ? from(0, 99) : from(0, 6))
                .append(" serve ").append(oneIn(5) ? from(1, 20) : from(1, 4)).append(';');
            least = place + wide;
        }
    }

    private int addCars(StringBuilder text, int most) {
        int cars = 0;
        int columns = from(0, 3);
        for (int i = 0; i < columns && cars < most; i++) {
            int more = from(1, most - cars);
            text.append("column ").append(more).append(oneIn(2) ? "x" : " x ").append(oneIn(5) ? from(1, 30) : from(1, 8)).append(';');
            cars += more;
        }
        return cars;
    }

    private void addRest(StringBuilder text, int cars, int length) {
        if (cars == 0) {
            return;
        }
        int at = -1;
        int splits = from(0, oneIn(3) ? 5 : 1);
        for (int i = 0; i < splits && at < cars - 1; i++) {
            at += from(1, cars - 1 - at);
            text.append("split ").append(at).append(';');
        }
        int place = 0;
        int gathers = oneIn(2) ? 0 : from(0, 4);
        for (int i = 0; i < gathers && place < length; i++) {
            place += from(1, length - place);
            text.append("gather ").append(place).append(';');
        }
        int broken = oneIn(2) ? 0 : from(0, 6);
        for (int i = 0; i < broken; i++) {
            text.append("broken ").append(from(0, cars - 1)).append(" at ").append(oneIn(5) ? from(0, 1999) : from(0, 60))
                .append(" for ").append(oneIn(5) ? from(1, 500) : from(1, 20)).append(';');
        }
    }

    /** A text with some bytes gone, doubled or put otherwise. */
    String spoil(String text) {
        StringBuilder b = new StringBuilder(text);
        String signs = " ;x0123456789abcdefgorst,A\n" + (char) 0 + (char) 233;
        int many = from(1, 3);
        for (int i = 0; i < many && b.length() > 0; i++) {
            int at = random.nextInt(b.length());
            switch (random.nextInt(4)) {
                case 0: b.deleteCharAt(at); break;
                case 1: b.insert(at, b.charAt(at)); break;
                case 2: b.setCharAt(at, signs.charAt(random.nextInt(signs.length()))); break;
                default: b.insert(at, signs.charAt(random.nextInt(signs.length()))); break;
            }
        }
        if (oneIn(4)) {
            b.setLength(random.nextInt(b.length() + 1));
        }
        return b.toString();
    }
}
