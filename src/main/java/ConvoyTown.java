/**
 * A convoy through a town: a column of cars on a road with crossings. The words of the
 * comments are those of the document (../shared/DOC.md).
 */
public final class ConvoyTown {
    public static final int NONE = -1;
    public static final long GREAT = -6L;

    private static final int NO_SUCH = -2;
    private static final int BAD_NUMBER = -3;
    private static final int TOO_MANY = -4;
    private static final int NOTHING = -5;
    private static final int FAULTY = -30;

    private static final int MOST_BYTES = 600;
    private static final int MOST_TICKS = 2000;
    private static final int MOST_CARS = 30;
    private static final int MOST_CROSSINGS = 10;
    private static final int MOST_GATHERS = 4;
    private static final int MOST_BROKEN = 6;
    private static final int MOST_BROKEN_TICKS = 500;
    private static final int MOST_EVENTS = 200;
    private static final int MOST_ACTS = 10;
    private static final int MOST_SPLITS = 2;
    private static final int MOST_START = 999;
    private static final int MOST_TRIED_START = 60;
    private static final int MOST_SPEED = 50;
    private static final long MOST_LONG = 9223372036854775807L;
    /** FRONT, TAIL and harm may be below 0, where the codes are: they are told so much more. */
    private static final int SHIFT = 100000;

    private static final int WHY_OUT = 0;
    private static final int WHY_NOT_STARTED = 1;
    private static final int WHY_BROKEN = 2;
    private static final int WHY_FREE = 3;
    private static final int WHY_GATHER = 4;
    private static final int WHY_CROSSING = 5;
    private static final int WHY_AHEAD = 6;
    private static final int WHYS = 7;

    private static final int ENTERS = 0;
    private static final int LEAVES = 1;
    private static final int IS_OUT = 2;

    private static final int ACT_SPLIT = 0;
    private static final int ACT_START = 1;
    private static final int ACT_BROKEN = 2;
    private static final int ACT_MENDED = 3;

    private Town told = new Town();
    private final Reader reader = new Reader();
    private final Acts acts = new Acts();
    private final Run run = new Run(told, MOST_EVENTS);
    /** All that is AS IF runs here, one after the other. */
    private final Run aside = new Run(told, 0);
    private final Facts facts = new Facts();
    private final Trials trials = new Trials();
    private final Marshals guard = new Marshals();

    public ConvoyTown() {
        run.begin(told);
    }

    // ---- the text

    public int feed(int a, int b, int c, int d, int e) {
        if (reader.taped + 20 > MOST_BYTES) {
            return TOO_MANY;
        }
        reader.putFour(a);
        reader.putFour(b);
        reader.putFour(c);
        reader.putFour(d);
        reader.putFour(e);
        return reader.taped;
    }

    public int tell(int n) {
        if (n < 0 || n > reader.taped) {
            return BAD_NUMBER;
        }
        reader.read(n);
        if (reader.fault != 0) {
            return FAULTY - reader.fault;
        }
        told = reader.handOver(told);
        acts.forget();
        beginAnew();
        return reader.lines;
    }

    public int fault(int what) {
        if (what == 0) {
            return reader.fault;
        }
        return what == 1 ? reader.faultPlace : NONE;
    }

    /** What is told has changed: the RUN begins anew, and no answer AS IF holds any more. */
    private void beginAnew() {
        run.begin(told);
        facts.forget();
        trials.forget();
    }

    // ---- by hand

    public int split(int car) {
        if (car < 0 || car >= told.cars - 1) {
            return NO_SUCH;
        }
        told.splits ^= 1 << car;
        acts.keep(ACT_SPLIT, car, 0, 0);
        beginAnew();
        return run.sections.count;
    }

    public int start(int tick) {
        if (tick < 0 || tick > MOST_START) {
            return BAD_NUMBER;
        }
        int before = told.start;
        told.start = tick;
        acts.keep(ACT_START, before, 0, 0);
        beginAnew();
        return before;
    }

    public int broken(int car, int tick, int many) {
        if (!isCar(car)) {
            return NO_SUCH;
        }
        if (!isTick(tick) || many < 1 || many > MOST_BROKEN_TICKS) {
            return BAD_NUMBER;
        }
        if (told.brokens >= MOST_BROKEN) {
            return TOO_MANY;
        }
        told.addBroken(car, tick, many);
        acts.keep(ACT_BROKEN, 0, 0, 0);
        beginAnew();
        return told.brokens;
    }

    public int mended() {
        if (told.brokens < 1) {
            return NOTHING;
        }
        told.brokens--;
        int latest = told.brokens;
        acts.keep(ACT_MENDED, told.brokenCar[latest], told.brokenFrom[latest], told.brokenMany[latest]);
        beginAnew();
        return told.brokens;
    }

    public int undo() {
        if (acts.count < 1) {
            return NOTHING;
        }
        acts.takeBack(told);
        beginAnew();
        return acts.count;
    }

    // ---- the run

    public int go(int n) {
        if (n < 0 || n > MOST_TICKS) {
            return BAD_NUMBER;
        }
        for (int i = 0; i < n && run.tick < MOST_TICKS; i++) {
            run.goOn();
        }
        return run.tick;
    }

    public int again() {
        int before = run.tick;
        run.begin(told);
        return before;
    }

    public int car(int car, int what) {
        if (!isCar(car)) {
            return NO_SUCH;
        }
        switch (what) {
            case 0: return run.front[car] + SHIFT;
            case 1: return run.tailOf(car) + SHIFT;
            case 2: return told.size[car];
            case 3: return run.why[car];
            case 4: return run.sections.of[car];
            case 5: return car < run.out ? 1 : 0;
            default: return NO_SUCH;
        }
    }

    public int crossing(int crossing, int what) {
        if (!isCrossing(crossing)) {
            return NO_SUCH;
        }
        Street street = run.street[crossing];
        switch (what) {
            case 0: return street.waiting;
            case 1: return street.waits;
            case 2: return street.served;
            case 3: return street.most;
            case 4: return run.firstHolder(crossing);
            case 5: return street.heldTicks;
            case 6: return street.overrun;
            case 7: return street.longestWait;
            default: return NO_SUCH;
        }
    }

    public int section(int section, int what) {
        if (!isSection(section)) {
            return NO_SUCH;
        }
        int lead = run.sections.lead[section];
        int last = run.sections.last[section];
        switch (what) {
            case 0: return lead;
            case 1: return last;
            case 2: return run.sections.extent[section];
            case 3: return run.front[lead] - run.tailOf(last);
            default: return NO_SUCH;
        }
    }

    public int event(int event, int what) {
        Events events = run.events;
        if (event < 0 || event >= events.count) {
            return NO_SUCH;
        }
        switch (what) {
            case 0: return events.kind[event];
            case 1: return events.tick[event];
            case 2: return events.crossing[event];
            case 3: return events.who[event];
            default: return NO_SUCH;
        }
    }

    // ---- when it may pass

    public int need(int section, int crossing) {
        if (!isSection(section) || !isCrossing(crossing)) {
            return NO_SUCH;
        }
        return run.sections.needAt(section, crossing);
    }

    public int pass(int section, int crossing, int tick) {
        if (!isSection(section) || !isCrossing(crossing)) {
            return NO_SUCH;
        }
        if (!isTick(tick)) {
            return BAD_NUMBER;
        }
        int first = told.cross[crossing].nextEntry(tick, run.sections.needAt(section, crossing));
        return first < MOST_TICKS ? first : NONE;
    }

    public int open(int crossing, int tick) {
        if (!isCrossing(crossing)) {
            return NO_SUCH;
        }
        if (!isTick(tick)) {
            return BAD_NUMBER;
        }
        return told.cross[crossing].isOpen(tick) ? 1 : 0;
    }

    public int window(int crossing, int k, int what) {
        if (!isCrossing(crossing)) {
            return NO_SUCH;
        }
        Cross cross = told.cross[crossing];
        if (k == NONE) {
            return cross.windows();
        }
        if (what < 0 || what > 1) {
            return NO_SUCH;
        }
        if (k < NONE) {
            return BAD_NUMBER;
        }
        if (k >= cross.windows()) {
            return NONE;
        }
        return what == 0 ? cross.windowBegins(k) : cross.windowTicks(k);
    }

    // ---- as if

    public int end() {
        facts.find(told, aside);
        return facts.end;
    }

    public int where(int car, int n) {
        if (!isCar(car)) {
            return NO_SUCH;
        }
        if (n < 0 || n > MOST_TICKS) {
            return BAD_NUMBER;
        }
        aside.begin(told);
        for (int i = 0; i < n && aside.tick < n && aside.out < told.cars; i++) {
            aside.goOnQuietly(n);
        }
        return aside.front[car] + SHIFT;
    }

    public int waits(int n) {
        if (n < 0 || n > MOST_TICKS) {
            return BAD_NUMBER;
        }
        aside.begin(told);
        for (int i = 0; i < n; i++) {
            aside.goOn();
        }
        return aside.allWaits();
    }

    public int stretch(int what) {
        if (told.cars == 0) {
            return NOTHING;
        }
        if (what < 0 || what > 1) {
            return NO_SUCH;
        }
        facts.find(told, aside);
        return what == 0 ? facts.stretchMost : facts.stretchAt;
    }

    public int fewest() {
        if (told.cars == 0) {
            return NOTHING;
        }
        return told.fewestSplits();
    }

    public int best(int k, int what) {
        if (told.cars == 0) {
            return NOTHING;
        }
        if (k < 0 || k > MOST_SPLITS) {
            return BAD_NUMBER;
        }
        if (what < 0 || what > 2) {
            return NO_SUCH;
        }
        trials.findBestSplits(told, aside, k);
        if (what == 0) {
            return trials.bestEnd[k];
        }
        return what == 1 ? trials.bestFirst[k] : trials.bestSecond[k];
    }

    public int bestStart(int n, int what) {
        if (told.cars == 0) {
            return NOTHING;
        }
        if (n < 0 || n > MOST_TRIED_START) {
            return BAD_NUMBER;
        }
        if (what < 0 || what > 1) {
            return NO_SUCH;
        }
        int tick = trials.bestStartUpTo(told, aside, n);
        return what == 0 || tick == NONE ? tick : trials.startWaits[tick];
    }

    public int harm(int car, int tick, int many) {
        if (!isCar(car)) {
            return NO_SUCH;
        }
        if (!isTick(tick) || many < 1 || many > MOST_BROKEN_TICKS) {
            return BAD_NUMBER;
        }
        facts.find(told, aside);
        if (facts.end == NONE) {
            return NONE;
        }
        int later = trials.endIfBroken(told, aside, car, tick, many);
        return later == NONE ? NONE : later - facts.end + SHIFT;
    }

    public int smooth(int n) {
        if (told.cars == 0) {
            return NOTHING;
        }
        if (n < 0 || n > MOST_TRIED_START) {
            return BAD_NUMBER;
        }
        return trials.smoothStartUpTo(told, aside, n);
    }

    public int held(int car, int why) {
        if (!isCar(car) || why < 0 || why >= WHYS) {
            return NO_SUCH;
        }
        facts.find(told, aside);
        return facts.heldTicks[car * WHYS + why];
    }

    public int slowest(int n) {
        if (told.cars == 0) {
            return NOTHING;
        }
        if (n < 0 || n > MOST_TICKS) {
            return BAD_NUMBER;
        }
        return trials.slowestFor(told, aside, n);
    }

    public int longest(int crossing) {
        if (!isCrossing(crossing)) {
            return NO_SUCH;
        }
        facts.find(told, aside);
        return facts.longestHeld[crossing];
    }

    public int marshals(int speed) {
        if (speed < 1 || speed > MOST_SPEED) {
            return BAD_NUMBER;
        }
        facts.find(told, aside);
        return guard.fewestFor(told, facts, speed);
    }

    public long price(long a, long b) {
        if (a < 0 || b < 0) {
            return BAD_NUMBER;
        }
        facts.find(told, aside);
        if (facts.end == NONE) {
            return NONE;
        }
        if (isTooMuch(a, facts.end) || isTooMuch(b, facts.waits)) {
            return GREAT;
        }
        long forEnd = a * facts.end;
        long forWaits = b * facts.waits;
        return forEnd > MOST_LONG - forWaits ? GREAT : forEnd + forWaits;
    }

    private static boolean isTooMuch(long each, int many) {
        return many > 0 && each > MOST_LONG / many;
    }

    public int count(int what) {
        switch (what) {
            case 0: return told.length;
            case 1: return told.speed;
            case 2: return told.gap;
            case 3: return told.start;
            case 4: return told.crossings;
            case 5: return told.cars;
            case 6: return run.sections.count;
            case 7: return told.gathers;
            case 8: return told.brokens;
            case 9: return run.tick;
            case 10: return run.out;
            case 11: return run.events.count;
            case 12: return acts.count;
            case 13: return reader.taped;
            default: return NONE;
        }
    }

    private boolean isCar(int car) {
        return car >= 0 && car < told.cars;
    }

    private boolean isCrossing(int crossing) {
        return crossing >= 0 && crossing < told.crossings;
    }

    private boolean isSection(int section) {
        return section >= 0 && section < run.sections.count;
    }

    private static boolean isTick(int tick) {
        return tick >= 0 && tick < MOST_TICKS;
    }

    /** A CROSSING as it is told. */
    private static final class Cross {
        int place;
        int end;
        int cycle = 1;
        int from;
        int to = 1;
        int every;
        int serve = 1;

        void take(Cross other) {
            place = other.place;
            end = other.end;
            cycle = other.cycle;
            from = other.from;
            to = other.to;
            every = other.every;
            serve = other.serve;
        }

        boolean isAlwaysOpen() {
            return from == 0 && to == cycle;
        }

        private int inCycle(int tick) {
            return cycle > 0 ? tick % cycle : 0;
        }

        boolean isOpen(int tick) {
            int at = inCycle(tick);
            return at >= from && at < to;
        }

        /** Whether there is any TICK from which on it is OPEN for so many. */
        boolean everLets(int need) {
            return isAlwaysOpen() || need <= to - from;
        }

        /** No window goes on into the next cycle, unless it never ends: a look at one cycle is enough. */
        boolean lets(int tick, int need) {
            if (isAlwaysOpen()) {
                return true;
            }
            int at = inCycle(tick);
            return at >= from && at + need <= to;
        }

        /** The first TICK from one on that lets a SECTION in; 2000 if there is none below. */
        int nextEntry(int tick, int need) {
            if (lets(tick, need)) {
                return tick;
            }
            if (!everLets(need)) {
                return MOST_TICKS;
            }
            int at = inCycle(tick);
            int ahead = at < from ? from - at : cycle - at + from;
            return Math.min(tick + ahead, MOST_TICKS);
        }

        int windows() {
            if (isAlwaysOpen() || cycle < 1) {
                return 1;
            }
            return (MOST_TICKS - from + cycle - 1) / cycle;
        }

        int windowBegins(int k) {
            return k * cycle + from;
        }

        int windowTicks(int k) {
            if (isAlwaysOpen()) {
                return MOST_TICKS;
            }
            return Math.min(to - from, MOST_TICKS - windowBegins(k));
        }
    }

    /** All that is told, by THE TEXT and by hand. */
    private static final class Town {
        int length;
        int speed;
        int gap;
        int start;
        int crossings;
        final Cross[] cross = new Cross[MOST_CROSSINGS];
        int cars;
        final int[] size = new int[MOST_CARS];
        /** Bit n: there is a split behind CAR n. */
        int splits;
        int gathers;
        final int[] gatherAt = new int[MOST_GATHERS];
        int brokens;
        /** One more than can be told, for harm. */
        final int[] brokenCar = new int[MOST_BROKEN + 1];
        final int[] brokenFrom = new int[MOST_BROKEN + 1];
        final int[] brokenMany = new int[MOST_BROKEN + 1];

        Town() {
            for (int i = 0; i < MOST_CROSSINGS; i++) {
                cross[i] = new Cross();
            }
            clear();
        }

        void clear() {
            length = 100;
            speed = 10;
            gap = 2;
            start = 0;
            crossings = 0;
            cars = 0;
            splits = 0;
            gathers = 0;
            brokens = 0;
        }

        void take(Town other) {
            length = other.length;
            speed = other.speed;
            gap = other.gap;
            start = other.start;
            crossings = other.crossings;
            for (int i = 0; i < crossings; i++) {
                cross[i].take(other.cross[i]);
            }
            cars = other.cars;
            System.arraycopy(other.size, 0, size, 0, MOST_CARS);
            splits = other.splits;
            gathers = other.gathers;
            System.arraycopy(other.gatherAt, 0, gatherAt, 0, MOST_GATHERS);
            brokens = other.brokens;
            System.arraycopy(other.brokenCar, 0, brokenCar, 0, MOST_BROKEN + 1);
            System.arraycopy(other.brokenFrom, 0, brokenFrom, 0, MOST_BROKEN + 1);
            System.arraycopy(other.brokenMany, 0, brokenMany, 0, MOST_BROKEN + 1);
        }

        void addCars(int many, int each) {
            for (int i = 0; i < many && cars < MOST_CARS; i++) {
                size[cars] = each;
                cars++;
            }
        }

        void addBroken(int car, int tick, int many) {
            if (brokens <= MOST_BROKEN) {
                brokenCar[brokens] = car;
                brokenFrom[brokens] = tick;
                brokenMany[brokens] = many;
                brokens++;
            }
        }

        /** Bit n: CAR n is BROKEN in the TICK. */
        int brokenIn(int tick) {
            int which = 0;
            for (int i = 0; i < brokens; i++) {
                if (tick >= brokenFrom[i] && tick < brokenFrom[i] + brokenMany[i]) {
                    which |= 1 << brokenCar[i];
                }
            }
            return which;
        }

        int needOf(int extent, int crossing) {
            int meters = cross[crossing].end - cross[crossing].place + extent;
            return speed > 0 ? (meters + speed - 1) / speed : meters;
        }

        private boolean canPass(int extent) {
            for (int i = 0; i < crossings; i++) {
                if (!cross[i].everLets(needOf(extent, i))) {
                    return false;
                }
            }
            return true;
        }

        int fewestSplits() {
            int made = 0;
            int extent = 0;
            for (int car = 0; car < cars; car++) {
                int longer = car == 0 ? size[car] : extent + gap + size[car];
                if (car > 0 && !canPass(longer)) {
                    made++;
                    longer = size[car];
                }
                if (!canPass(longer)) {
                    return NONE;
                }
                extent = longer;
            }
            return made;
        }
    }

    /** The SECTIONS of a town's column, and their NEEDS. */
    private static final class Sections {
        int count;
        final int[] lead = new int[MOST_CARS];
        final int[] last = new int[MOST_CARS];
        final int[] extent = new int[MOST_CARS];
        final int[] of = new int[MOST_CARS];
        private final int[] need = new int[MOST_CARS * MOST_CROSSINGS];

        void layOut(Town town) {
            count = 0;
            for (int car = 0; car < town.cars; car++) {
                boolean leads = car == 0 || (town.splits >> (car - 1) & 1) != 0;
                if (leads) {
                    lead[count] = car;
                    extent[count] = town.size[car];
                    count++;
                } else {
                    extent[count - 1] += town.gap + town.size[car];
                }
                last[count - 1] = car;
                of[car] = count - 1;
            }
            for (int section = 0; section < count; section++) {
                for (int i = 0; i < town.crossings; i++) {
                    need[section * MOST_CROSSINGS + i] = town.needOf(extent[section], i);
                }
            }
        }

        int needAt(int section, int crossing) {
            return need[section * MOST_CROSSINGS + crossing];
        }
    }

    /**
     * THE TAPE, and what reads THE TEXT from it. The first FAULT ends that; it is read into a
     * town aside, so that with a FAULT all stays.
     */
    private static final class Reader {
        private static final int AT_END = 0;
        private static final int NUMBER = 1;
        private static final int WORD = 2;
        private static final int SIGN = 3;

        private static final int CANT_STAND = 1;
        private static final int OUT_OF_BOUNDS = 2;
        private static final int ONE_TOO_MUCH = 3;

        private static final int SEEN_ROAD = 1;
        private static final int SEEN_SPEED = 2;
        private static final int SEEN_GAP = 4;
        private static final int SEEN_START = 8;
        private static final int SEEN_OTHER = 16;

        int taped;
        int fault;
        int faultPlace = NONE;
        int lines;
        private final int[] tape = new int[MOST_BYTES];
        private Town town = new Town();
        /** How many bytes THE TEXT has. */
        private int size;
        private int seen;
        /** The token at hand: its kind, where it begins, its number; at is behind it. */
        private int kind;
        private int place;
        private int value;
        private int at;

        void putFour(int four) {
            for (int shift = 24; shift >= 0; shift -= 8) {
                if (taped < MOST_BYTES) {
                    tape[taped] = four >>> shift & 255;
                    taped++;
                }
            }
        }

        void read(int many) {
            size = Math.min(many, taped);
            taped = 0;
            town.clear();
            fault = 0;
            faultPlace = NONE;
            lines = 0;
            seen = 0;
            at = 0;
            step();
            while (fault == 0 && kind != AT_END && lines < MOST_BYTES) {
                readLine();
                lines++;
            }
        }

        /** The town that was read, for the one that was told ahead, into which the next is read. */
        Town handOver(Town before) {
            Town read = town;
            town = before;
            return read;
        }

        private void fail(int which, int where) {
            if (fault == 0) {
                fault = which;
                faultPlace = where;
            }
        }

        private void step() {
            while (at < size && tape[at] == ' ') {
                at++;
            }
            place = at;
            value = 0;
            if (at >= size) {
                kind = AT_END;
            } else if (isDigit(tape[at])) {
                kind = NUMBER;
                while (at < size && isDigit(tape[at])) {
                    // more than four digits are out of bounds, whatever they are
                    if (at - place < 4) {
                        value = value * 10 + tape[at] - '0';
                    }
                    at++;
                }
            } else if (isLetter(tape[at])) {
                kind = WORD;
                while (at < size && isLetter(tape[at])) {
                    at++;
                }
            } else {
                kind = SIGN;
                value = tape[at];
                at++;
            }
        }

        private static boolean isDigit(int sign) {
            return sign >= '0' && sign <= '9';
        }

        private static boolean isLetter(int sign) {
            return sign >= 'a' && sign <= 'z';
        }

        private boolean isWord(String word) {
            if (kind != WORD || at - place != word.length()) {
                return false;
            }
            for (int i = 0; i < word.length(); i++) {
                if (tape[place + i] != word.charAt(i)) {
                    return false;
                }
            }
            return true;
        }

        private void takeWord(String word) {
            if (fault != 0) {
                return;
            }
            if (isWord(word)) {
                step();
            } else {
                fail(CANT_STAND, place);
            }
        }

        /** With a FAULT it answers the least, which nobody uses. */
        private int takeNumber(int least, int most) {
            if (fault != 0) {
                return least;
            }
            if (kind != NUMBER) {
                fail(CANT_STAND, place);
                return least;
            }
            if (at - place > 4 || value < least || value > most) {
                fail(OUT_OF_BOUNDS, place);
                return least;
            }
            int taken = value;
            step();
            return taken;
        }

        private void takeLineEnd() {
            if (fault != 0) {
                return;
            }
            if (kind == SIGN && value == ';') {
                step();
            } else {
                fail(CANT_STAND, place);
            }
        }

        private void readLine() {
            if (isWord("road")) {
                if ((seen & SEEN_OTHER) != 0) {
                    fail(CANT_STAND, place);
                }
                town.length = takeOnce(SEEN_ROAD, 10, 1000);
            } else if (isWord("speed")) {
                town.speed = takeOnce(SEEN_SPEED, 1, MOST_SPEED);
            } else if (isWord("gap")) {
                town.gap = takeOnce(SEEN_GAP, 0, 50);
            } else if (isWord("start")) {
                town.start = takeOnce(SEEN_START, 0, MOST_START);
            } else {
                readOther();
            }
            takeLineEnd();
        }

        private int takeOnce(int which, int least, int most) {
            if ((seen & which) != 0) {
                fail(CANT_STAND, place);
            }
            seen |= which;
            if (fault != 0) {
                return least;
            }
            step();
            return takeNumber(least, most);
        }

        private void readOther() {
            seen |= SEEN_OTHER;
            if (isWord("cross")) {
                readCross();
            } else if (isWord("column")) {
                readColumn();
            } else if (isWord("split")) {
                readSplit();
            } else if (isWord("gather")) {
                readGather();
            } else if (isWord("broken")) {
                readBroken();
            } else {
                fail(CANT_STAND, place);
            }
        }

        private void readCross() {
            if (town.crossings >= MOST_CROSSINGS) {
                fail(ONE_TOO_MUCH, place);
                return;
            }
            step();
            Cross cross = town.cross[town.crossings];
            int least = town.crossings == 0 ? 0 : town.cross[town.crossings - 1].end;
            cross.place = takeNumber(least, town.length - 1);
            takeWord("wide");
            cross.end = cross.place + takeNumber(1, Math.min(50, town.length - cross.place));
            takeWord("cycle");
            cross.cycle = takeNumber(1, 200);
            takeWord("open");
            cross.from = takeNumber(0, cross.cycle - 1);
            takeWord("to");
            cross.to = takeNumber(cross.from + 1, cross.cycle);
            takeWord("cars");
            cross.every = takeNumber(0, 99);
            takeWord("serve");
            cross.serve = takeNumber(1, 20);
            town.crossings++;
        }

        private void readColumn() {
            step();
            int first = place;
            int many = takeNumber(1, MOST_CARS);
            takeWord("x");
            int each = takeNumber(1, 30);
            if (fault != 0) {
                return;
            }
            if (town.cars + many > MOST_CARS) {
                fail(ONE_TOO_MUCH, first);
                return;
            }
            town.addCars(many, each);
        }

        private void readSplit() {
            step();
            int number = place;
            int car = takeNumber(0, town.cars - 1);
            if (fault != 0) {
                return;
            }
            if ((town.splits >> car & 1) != 0) {
                fail(ONE_TOO_MUCH, number);
                return;
            }
            town.splits |= 1 << car;
        }

        private void readGather() {
            if (town.gathers >= MOST_GATHERS) {
                fail(ONE_TOO_MUCH, place);
                return;
            }
            step();
            int least = town.gathers == 0 ? 1 : town.gatherAt[town.gathers - 1] + 1;
            town.gatherAt[town.gathers] = takeNumber(least, town.length);
            town.gathers++;
        }

        private void readBroken() {
            if (town.brokens >= MOST_BROKEN) {
                fail(ONE_TOO_MUCH, place);
                return;
            }
            step();
            int car = takeNumber(0, town.cars - 1);
            takeWord("at");
            int tick = takeNumber(0, MOST_TICKS - 1);
            takeWord("for");
            int many = takeNumber(1, MOST_BROKEN_TICKS);
            if (fault == 0) {
                town.addBroken(car, tick, many);
            }
        }
    }

    /** The latest ACTS, each with what takes it back. */
    private static final class Acts {
        int count;
        private final int[] kind = new int[MOST_ACTS];
        private final int[] first = new int[MOST_ACTS];
        private final int[] second = new int[MOST_ACTS];
        private final int[] third = new int[MOST_ACTS];

        void forget() {
            count = 0;
        }

        void keep(int what, int a, int b, int c) {
            if (count >= MOST_ACTS) {
                dropOldest();
            }
            kind[count] = what;
            first[count] = a;
            second[count] = b;
            third[count] = c;
            count++;
        }

        private void dropOldest() {
            for (int i = 1; i < MOST_ACTS; i++) {
                kind[i - 1] = kind[i];
                first[i - 1] = first[i];
                second[i - 1] = second[i];
                third[i - 1] = third[i];
            }
            count = MOST_ACTS - 1;
        }

        void takeBack(Town town) {
            if (count < 1) {
                return;
            }
            count--;
            switch (kind[count]) {
                case ACT_SPLIT:
                    town.splits ^= 1 << first[count];
                    break;
                case ACT_START:
                    town.start = first[count];
                    break;
                case ACT_BROKEN:
                    town.brokens = Math.max(0, town.brokens - 1);
                    break;
                default:
                    town.addBroken(first[count], second[count], third[count]);
                    break;
            }
        }
    }

    /** Those who wait on the cross street of one CROSSING. */
    private static final class Street {
        int waiting;
        int waits;
        int served;
        int most;
        int heldTicks;
        int overrun;
        int longestWait;

        void clear() {
            waiting = 0;
            waits = 0;
            served = 0;
            most = 0;
            heldTicks = 0;
            overrun = 0;
            longestWait = 0;
        }

        void goOn(Cross cross, int tick, boolean isHeld) {
            if (cross.every > 0 && tick % cross.every == 0) {
                waiting++;
                most = Math.max(most, waiting);
            }
            if (!isHeld && waiting > 0 && cross.serve > 0 && tick % cross.serve == 0) {
                // the n-th came at TICK n times every, and they go in the order in which they came
                longestWait = Math.max(longestWait, tick - served * cross.every);
                served++;
                waiting--;
            }
            waits += waiting;
            if (isHeld) {
                heldTicks++;
                if (!cross.isOpen(tick)) {
                    overrun++;
                }
            }
        }
    }

    /** The first EVENTS of a RUN, as many as there is room for. */
    private static final class Events {
        int count;
        final int[] kind;
        final int[] tick;
        final int[] crossing;
        final int[] who;

        Events(int room) {
            int many = Math.max(0, room);
            kind = new int[many];
            tick = new int[many];
            crossing = new int[many];
            who = new int[many];
        }

        void keep(int what, int when, int where, int whose) {
            if (count < kind.length) {
                kind[count] = what;
                tick[count] = when;
                crossing[count] = where;
                who[count] = whose;
                count++;
            }
        }
    }

    /** A RUN, tick by tick: the one that is told, or one aside. */
    private static final class Run {
        private Town town;
        final Sections sections = new Sections();
        int tick;
        /** CARS go OUT from the head on: those below this one are. */
        int out;
        /** Whether a CAR went on in the latest TICK. */
        private boolean moved;
        /** Whether a CROSSING ever held a CAR. */
        boolean stopped;
        final int[] front = new int[MOST_CARS];
        final int[] why = new int[MOST_CARS];
        /** Of a LEAD: how many CROSSINGS its SECTION has ENTERED. */
        private final int[] entered = new int[MOST_CARS];
        /** Of a last CAR: how many CROSSINGS its SECTION has LEFT. */
        private final int[] left = new int[MOST_CARS];
        /** By how many SECTIONS a CROSSING is HELD. */
        private final int[] holders = new int[MOST_CROSSINGS];
        final Street[] street = new Street[MOST_CROSSINGS];
        final Events events;

        Run(Town plan, int eventRoom) {
            town = plan;
            events = new Events(eventRoom);
            for (int i = 0; i < MOST_CROSSINGS; i++) {
                street[i] = new Street();
            }
        }

        void begin(Town plan) {
            town = plan;
            sections.layOut(plan);
            tick = 0;
            out = 0;
            moved = false;
            stopped = false;
            events.count = 0;
            int at = 0;
            for (int car = 0; car < plan.cars; car++) {
                front[car] = at;
                at -= plan.size[car] + plan.gap;
                why[car] = NONE;
                entered[car] = 0;
                left[car] = 0;
            }
            for (int i = 0; i < plan.crossings; i++) {
                holders[i] = 0;
                street[i].clear();
            }
        }

        int tailOf(int car) {
            return front[car] - town.size[car];
        }

        boolean isHeld(int crossing) {
            return holders[crossing] > 0;
        }

        int firstHolder(int crossing) {
            Cross cross = town.cross[crossing];
            for (int section = 0; section < sections.count; section++) {
                boolean isIn = front[sections.lead[section]] > cross.place;
                if (isIn && tailOf(sections.last[section]) < cross.end) {
                    return section;
                }
            }
            return NONE;
        }

        int allWaits() {
            int all = 0;
            for (int i = 0; i < town.crossings; i++) {
                all += street[i].waits;
            }
            return all;
        }

        void goOn() {
            for (int i = 0; i < town.crossings; i++) {
                street[i].goOn(town.cross[i], tick, holders[i] > 0);
            }
            moveCars();
            tick++;
        }

        /** A TICK without the cross streets. */
        void moveOn() {
            moveCars();
            tick++;
        }

        /**
         * A TICK without the cross streets; those in which nothing can move are leapt over. WHY may
         * change in them (of two that hold a CAR another may be the first): it isn't to be asked.
         */
        void goOnQuietly(int limit) {
            moveCars();
            tick++;
            if (!moved) {
                tick = Math.max(tick, Math.min(limit, nextStir()));
            }
        }

        /** When something may move again, if nothing moved in the latest TICK. */
        private int nextStir() {
            if (tick <= town.start) {
                return town.start;
            }
            int next = MOST_TICKS;
            for (int i = 0; i < town.brokens; i++) {
                int mended = town.brokenFrom[i] + town.brokenMany[i];
                if (mended >= tick) {
                    next = Math.min(next, mended);
                }
            }
            for (int section = 0; section < sections.count; section++) {
                int lead = sections.lead[section];
                int crossing = entered[lead];
                if (lead >= out && why[lead] == WHY_CROSSING && crossing < town.crossings) {
                    int need = sections.needAt(section, crossing);
                    next = Math.min(next, town.cross[crossing].nextEntry(tick, need));
                }
            }
            return next;
        }

        /** THE END of a plan, or NONE if it isn't by the limit. */
        int runToEnd(Town plan, int limit) {
            begin(plan);
            if (isHopeless()) {
                return NONE;
            }
            for (int i = 0; i < limit && tick < limit && out < plan.cars && !isTooLate(limit); i++) {
                goOnQuietly(limit);
            }
            return out >= plan.cars ? tick : NONE;
        }

        /** Whether the last CAR can't be OUT by the limit, even if nothing holds it any more. */
        boolean isTooLate(int limit) {
            int last = town.cars - 1;
            int ticks = limit - Math.max(tick, town.start);
            return last >= 0 && tailOf(last) + town.speed * ticks < town.length;
        }

        /** Whether there is a SECTION that some CROSSING never lets in: then there is no END. */
        boolean isHopeless() {
            for (int section = 0; section < sections.count; section++) {
                for (int i = 0; i < town.crossings; i++) {
                    if (!town.cross[i].everLets(sections.needAt(section, i))) {
                        return true;
                    }
                }
            }
            return false;
        }

        private void moveCars() {
            moved = false;
            for (int car = 0; car < out; car++) {
                why[car] = WHY_OUT;
            }
            if (tick < town.start) {
                for (int car = out; car < town.cars; car++) {
                    why[car] = WHY_NOT_STARTED;
                }
                return;
            }
            int broken = town.brokenIn(tick);
            boolean closed = isClosed();
            for (int car = out; car < town.cars; car++) {
                if ((broken >> car & 1) != 0) {
                    why[car] = WHY_BROKEN;
                } else {
                    moveCar(car, closed);
                }
            }
        }

        /** Asked of CAR 0 alone, at a GATHER: without these, or with it OUT, nobody looks at it. */
        private boolean isClosed() {
            if (town.gathers == 0 || out > 0) {
                return true;
            }
            for (int car = 1; car < town.cars; car++) {
                if (front[car] != tailOf(car - 1) - town.gap) {
                    return false;
                }
            }
            return true;
        }

        private void moveCar(int car, boolean closed) {
            int now = front[car];
            int to = now + town.speed;
            int cause = WHY_FREE;
            if (car == 0 && !closed) {
                for (int i = 0; i < town.gathers; i++) {
                    int place = town.gatherAt[i];
                    if (place >= now && place < to) {
                        to = place;
                        cause = WHY_GATHER;
                    }
                }
            }
            int section = sections.of[car];
            if (sections.lead[section] == car) {
                for (int i = entered[car]; i < town.crossings; i++) {
                    Cross cross = town.cross[i];
                    if (cross.place >= to) {
                        break;
                    }
                    if (!cross.lets(tick, sections.needAt(section, i))) {
                        to = cross.place;
                        cause = WHY_CROSSING;
                    }
                }
            }
            if (car > out) {
                int behind = tailOf(car - 1) - town.gap;
                if (behind < to) {
                    to = behind;
                    cause = WHY_AHEAD;
                }
            }
            why[car] = cause;
            if (cause == WHY_CROSSING) {
                stopped = true;
            }
            if (to > now) {
                moved = true;
                putForward(car, section, to);
            }
        }

        private void putForward(int car, int section, int to) {
            front[car] = to;
            int tail = to - town.size[car];
            boolean leads = sections.lead[section] == car;
            boolean isLast = sections.last[section] == car;
            if (leads || isLast) {
                int first = isLast ? left[car] : entered[car];
                for (int i = first; i < town.crossings; i++) {
                    if (town.cross[i].place >= to) {
                        break;
                    }
                    if (leads && i == entered[car]) {
                        entered[car]++;
                        holders[i]++;
                        events.keep(ENTERS, tick, i, section);
                    }
                    if (isLast && i == left[car] && town.cross[i].end <= tail) {
                        left[car]++;
                        holders[i]--;
                        events.keep(LEAVES, tick, i, section);
                    }
                }
            }
            if (tail >= town.length) {
                out = car + 1;
                events.keep(IS_OUT, tick, NONE, car);
            }
        }
    }

    /** What is known of the whole RUN, AS IF; gone through once for all calls that ask. */
    private static final class Facts {
        private boolean known;
        int end;
        int waits;
        int stretchMost;
        int stretchAt;
        /** Of CAR and WHY: in how many TICKS. */
        final int[] heldTicks = new int[MOST_CARS * WHYS];
        final int[] longestHeld = new int[MOST_CROSSINGS];
        private final int[] heldNow = new int[MOST_CROSSINGS];
        /** GUARDED from the first TICK to the last; NONE: never. */
        final int[] firstHeld = new int[MOST_CROSSINGS];
        final int[] lastHeld = new int[MOST_CROSSINGS];

        void forget() {
            known = false;
        }

        void find(Town town, Run run) {
            if (known) {
                return;
            }
            clear();
            run.begin(town);
            seeStretch(town, run);
            for (int i = 0; i < MOST_TICKS && run.out < town.cars; i++) {
                seeHeld(town, run);
                run.goOn();
                for (int car = 0; car < town.cars; car++) {
                    int why = run.why[car];
                    if (why >= 0 && why < WHYS) {
                        heldTicks[car * WHYS + why]++;
                    }
                }
                seeStretch(town, run);
            }
            end = run.out >= town.cars ? run.tick : NONE;
            waits = run.allWaits();
            known = true;
        }

        private void clear() {
            stretchMost = NONE;
            stretchAt = 0;
            for (int i = 0; i < heldTicks.length; i++) {
                heldTicks[i] = 0;
            }
            for (int i = 0; i < MOST_CROSSINGS; i++) {
                longestHeld[i] = 0;
                heldNow[i] = 0;
                firstHeld[i] = NONE;
                lastHeld[i] = NONE;
            }
        }

        private void seeStretch(Town town, Run run) {
            if (town.cars < 1) {
                return;
            }
            int meters = run.front[0] - run.tailOf(town.cars - 1);
            if (meters > stretchMost) {
                stretchMost = meters;
                stretchAt = run.tick;
            }
        }

        private void seeHeld(Town town, Run run) {
            for (int i = 0; i < town.crossings; i++) {
                if (!run.isHeld(i)) {
                    heldNow[i] = 0;
                    continue;
                }
                heldNow[i]++;
                longestHeld[i] = Math.max(longestHeld[i], heldNow[i]);
                if (firstHeld[i] == NONE) {
                    firstHeld[i] = run.tick;
                }
                lastHeld[i] = run.tick;
            }
        }
    }

    /** Other splits, other STARTS, other speeds, AS IF; what was found is kept till all changes. */
    private static final class Trials {
        private static final int UNKNOWN = -2;

        private final Town plan = new Town();
        /** Up to how many splits the best are found; NONE: not yet. */
        private int bestKnown = NONE;
        final int[] bestEnd = new int[MOST_SPLITS + 1];
        final int[] bestFirst = new int[MOST_SPLITS + 1];
        final int[] bestSecond = new int[MOST_SPLITS + 1];
        /** By START: WAITS by THE END; NONE: there is none. */
        final int[] startWaits = new int[MOST_TRIED_START + 1];
        /** By START: 1 if no CROSSING ever holds a CAR, and there is THE END; else 0. */
        private final int[] startSmooth = new int[MOST_TRIED_START + 1];
        private final int[] speedEnd = new int[MOST_SPEED + 1];

        Trials() {
            setUnknown();
        }

        private void setUnknown() {
            bestKnown = NONE;
            for (int i = 0; i <= MOST_TRIED_START; i++) {
                startWaits[i] = UNKNOWN;
                startSmooth[i] = UNKNOWN;
            }
            for (int i = 0; i <= MOST_SPEED; i++) {
                speedEnd[i] = UNKNOWN;
            }
        }

        void forget() {
            setUnknown();
        }

        /** Sets come in their order, the smaller first: only one that is sooner is better. */
        void findBestSplits(Town town, Run run, int k) {
            plan.take(town);
            if (bestKnown < 0) {
                beginBest(0);
                plan.splits = 0;
                keepIfSooner(run.runToEnd(plan, MOST_TICKS), NONE, NONE);
            }
            if (bestKnown < 1 && k >= 1) {
                beginBest(1);
                for (int one = 0; one < plan.cars - 1; one++) {
                    plan.splits = 1 << one;
                    keepIfSooner(run.runToEnd(plan, soonerThanBest()), one, NONE);
                }
            }
            if (bestKnown < 2 && k >= 2) {
                beginBest(2);
                for (int one = 0; one < plan.cars - 1; one++) {
                    for (int two = one + 1; two < plan.cars - 1; two++) {
                        plan.splits = 1 << one | 1 << two;
                        keepIfSooner(run.runToEnd(plan, soonerThanBest()), one, two);
                    }
                }
            }
        }

        /** The best of so many splits or fewer is, for now, the best of fewer. */
        private void beginBest(int many) {
            boolean hasFewer = many > 0;
            bestEnd[many] = hasFewer ? bestEnd[many - 1] : NONE;
            bestFirst[many] = hasFewer ? bestFirst[many - 1] : NONE;
            bestSecond[many] = NONE;
            bestKnown = many;
        }

        private int soonerThanBest() {
            return bestEnd[bestKnown] == NONE ? MOST_TICKS : bestEnd[bestKnown] - 1;
        }

        private void keepIfSooner(int end, int one, int two) {
            if (end != NONE) {
                bestEnd[bestKnown] = end;
                bestFirst[bestKnown] = one;
                bestSecond[bestKnown] = two;
            }
        }

        int bestStartUpTo(Town town, Run run, int n) {
            plan.take(town);
            int best = NONE;
            for (int tick = 0; tick <= n && tick <= MOST_TRIED_START; tick++) {
                if (startWaits[tick] == UNKNOWN) {
                    startWaits[tick] = waitsByStart(run, tick);
                }
                boolean hasEnd = startWaits[tick] != NONE;
                if (hasEnd && (best == NONE || startWaits[tick] < startWaits[best])) {
                    best = tick;
                }
            }
            return best;
        }

        private int waitsByStart(Run run, int tick) {
            plan.start = tick;
            run.begin(plan);
            if (run.isHopeless()) {
                return NONE;
            }
            for (int i = 0; i < MOST_TICKS && run.out < plan.cars && !run.isTooLate(MOST_TICKS); i++) {
                run.goOn();
            }
            return run.out >= plan.cars ? run.allWaits() : NONE;
        }

        int endIfBroken(Town town, Run run, int car, int tick, int many) {
            plan.take(town);
            plan.addBroken(car, tick, many);
            return run.runToEnd(plan, MOST_TICKS);
        }

        int smoothStartUpTo(Town town, Run run, int n) {
            plan.take(town);
            for (int tick = 0; tick <= n && tick <= MOST_TRIED_START; tick++) {
                if (startSmooth[tick] == UNKNOWN) {
                    startSmooth[tick] = isSmooth(run, tick) ? 1 : 0;
                }
                if (startSmooth[tick] == 1) {
                    return tick;
                }
            }
            return NONE;
        }

        private boolean isSmooth(Run run, int tick) {
            plan.start = tick;
            run.begin(plan);
            for (int i = 0; i < MOST_TICKS && run.out < plan.cars && !run.isTooLate(MOST_TICKS); i++) {
                run.moveOn();
                if (run.stopped) {
                    return false;
                }
            }
            return run.out >= plan.cars;
        }

        int slowestFor(Town town, Run run, int n) {
            plan.take(town);
            for (int speed = 1; speed <= MOST_SPEED; speed++) {
                if (speedEnd[speed] == UNKNOWN) {
                    plan.speed = speed;
                    speedEnd[speed] = run.runToEnd(plan, MOST_TICKS);
                }
                if (speedEnd[speed] != NONE && speedEnd[speed] <= n) {
                    return speed;
                }
            }
            return NONE;
        }
    }

    /**
     * The fewest MARSHALS: each goes along a chain of GUARDED CROSSINGS, so there are as many
     * as CROSSINGS less the most ways from one to the next that can be gone together.
     */
    private static final class Marshals {
        /** Of a CROSSING: bit n, if a marshal can go from it to CROSSING n. */
        private final int[] canReach = new int[MOST_CROSSINGS];
        /** Of a CROSSING: the one from which its marshal comes. */
        private final int[] comesFrom = new int[MOST_CROSSINGS];
        /** Bit n: CROSSING n was looked at in this search. */
        private int looked;

        int fewestFor(Town town, Facts facts, int speed) {
            for (int i = 0; i < MOST_CROSSINGS; i++) {
                comesFrom[i] = NONE;
                canReach[i] = 0;
            }
            for (int from = 0; from < town.crossings; from++) {
                for (int to = 0; to < town.crossings; to++) {
                    int ticks = facts.firstHeld[to] - facts.lastHeld[from] - 1;
                    int meters = Math.abs(town.cross[to].place - town.cross[from].place);
                    if (facts.firstHeld[to] != NONE && ticks > 0 && meters <= speed * ticks) {
                        canReach[from] |= 1 << to;
                    }
                }
            }
            int many = 0;
            for (int i = 0; i < town.crossings; i++) {
                looked = 0;
                if (facts.firstHeld[i] != NONE && !findNext(i, 0)) {
                    many++;
                }
            }
            return many;
        }

        /** Finds a CROSSING to go to from this one; others may have to go elsewhere for it. */
        private boolean findNext(int from, int depth) {
            if (depth > MOST_CROSSINGS || from < 0 || from >= MOST_CROSSINGS) {
                return false;
            }
            for (int to = 0; to < MOST_CROSSINGS; to++) {
                if (((canReach[from] & ~looked) >> to & 1) != 0) {
                    looked |= 1 << to;
                    if (comesFrom[to] == NONE || findNext(comesFrom[to], depth + 1)) {
                        comesFrom[to] = from;
                        return true;
                    }
                }
            }
            return false;
        }
    }
}
